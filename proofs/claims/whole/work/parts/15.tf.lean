/-- PolicyRowsModel.isRole(I)Z -/
theorem en_X12_isRole {X : bi_X} {d : Nat} {K : Int32 → bi_St → Prop} {E : Nat → bi_St → Prop} {s : bi_St} {x0 : Int32}  (h : ((x0 < 0) → cI X d 163 [.ref 77, .int (0 : Int32), .int (1 : Int32)] s (fun (r1 : Int32) (s1 : bi_St) => bi_bool r1 = true ∧ (K r1 s1)) (fun _ _ => False)) ∧ (¬ (x0 < 0) → (((st_g s 77 27) ≤ x0) → cI X d 163 [.ref 77, .int (0 : Int32), .int (1 : Int32)] s (fun (r2 : Int32) (s2 : bi_St) => bi_bool r2 = true ∧ (K r2 s2)) (fun _ _ => False)) ∧ (¬ ((st_g s 77 27) ≤ x0) → cI X d 163 [.ref 77, .int (1 : Int32), .int (1 : Int32)] s (fun (r3 : Int32) (s3 : bi_St) => bi_bool r3 = true ∧ (K r3 s3)) (fun _ _ => False)))) : cI X (d + 1) 222 [.ref 77, .int x0] s K E := by
  show bi_T _ _ _ _ _
  refine bi_Tr 3 (s' := ((if x0 < 0 then 17 else 5), [(0, .ref 77), (1, .int x0)], [.ref 77], st_mm s)) rfl (bi_Tif (fun hc => ?_) (fun hc => ?_))
  · have h := h.1 hc
    refine bi_Tr 2 (s' := (19, [(0, .ref 77), (1, .int x0)], [.int (1 : Int32), .int (0 : Int32), .ref 77], st_mm s)) rfl ?_
    refine bi_TcI (as := [.ref 77, .int (0 : Int32), .int (1 : Int32)]) rfl rfl ?_
    refine cI.mono h (fun r1 s1 h => ?_) (fun _ _ h => h.elim)
    obtain ⟨hi, h⟩ := h
    exact bi_Tv rfl hi (Or.inl ⟨_, _, rfl, h⟩)
  · have h := h.2 hc
    refine bi_Tr 4 (s' := ((if (st_g s 77 27) ≤ x0 then 17 else 13), [(0, .ref 77), (1, .int x0)], [.ref 77], st_mm s)) rfl (bi_Tif (fun hc => ?_) (fun hc => ?_))
    · have h := h.1 hc
      refine bi_Tr 2 (s' := (19, [(0, .ref 77), (1, .int x0)], [.int (1 : Int32), .int (0 : Int32), .ref 77], st_mm s)) rfl ?_
      refine bi_TcI (as := [.ref 77, .int (0 : Int32), .int (1 : Int32)]) rfl rfl ?_
      refine cI.mono h (fun r2 s2 h => ?_) (fun _ _ h => h.elim)
      obtain ⟨hi, h⟩ := h
      exact bi_Tv rfl hi (Or.inl ⟨_, _, rfl, h⟩)
    · have h := h.2 hc
      refine bi_Tr 3 (s' := (19, [(0, .ref 77), (1, .int x0)], [.int (1 : Int32), .int (1 : Int32), .ref 77], st_mm s)) rfl ?_
      refine bi_TcI (as := [.ref 77, .int (1 : Int32), .int (1 : Int32)]) rfl rfl ?_
      refine cI.mono h (fun r3 s3 h => ?_) (fun _ _ h => h.elim)
      obtain ⟨hi, h⟩ := h
      exact bi_Tv rfl hi (Or.inl ⟨_, _, rfl, h⟩)
/-- PolicyRowsModel.isRow(I)Z -/
theorem en_X12_isRow {X : bi_X} {d : Nat} {K : Int32 → bi_St → Prop} {E : Nat → bi_St → Prop} {s : bi_St} {x0 : Int32}  (h : ((x0 < 0) → cI X d 163 [.ref 77, .int (0 : Int32), .int (1 : Int32)] s (fun (r1 : Int32) (s1 : bi_St) => bi_bool r1 = true ∧ (K r1 s1)) (fun _ _ => False)) ∧ (¬ (x0 < 0) → bi_in (7 : Int32) 144 = true ∧ ((((st_g s 90 ((7 : Int32)).toNatClampNeg) ≤ x0) → cI X d 163 [.ref 77, .int (0 : Int32), .int (1 : Int32)] s (fun (r2 : Int32) (s2 : bi_St) => bi_bool r2 = true ∧ (K r2 s2)) (fun _ _ => False)) ∧ (¬ ((st_g s 90 ((7 : Int32)).toNatClampNeg) ≤ x0) → cI X d 163 [.ref 77, .int (1 : Int32), .int (1 : Int32)] s (fun (r3 : Int32) (s3 : bi_St) => bi_bool r3 = true ∧ (K r3 s3)) (fun _ _ => False))))) : cI X (d + 1) 223 [.ref 77, .int x0] s K E := by
  show bi_T _ _ _ _ _
  refine bi_Tr 3 (s' := ((if x0 < 0 then 20 else 5), [(0, .ref 77), (1, .int x0)], [.ref 77], st_mm s)) rfl (bi_Tif (fun hc => ?_) (fun hc => ?_))
  · have h := h.1 hc
    refine bi_Tr 2 (s' := (22, [(0, .ref 77), (1, .int x0)], [.int (1 : Int32), .int (0 : Int32), .ref 77], st_mm s)) rfl ?_
    refine bi_TcI (as := [.ref 77, .int (0 : Int32), .int (1 : Int32)]) rfl rfl ?_
    refine cI.mono h (fun r1 s1 h => ?_) (fun _ _ h => h.elim)
    obtain ⟨hi, h⟩ := h
    exact bi_Tv rfl hi (Or.inl ⟨_, _, rfl, h⟩)
  · have h := h.2 hc
    refine bi_Tr 4 (s' := (12, [(0, .ref 77), (1, .int x0)], [.int (7 : Int32), .ref 90, .int x0, .ref 77], st_mm s)) rfl ?_
    obtain ⟨hi, h⟩ := h
    refine bi_Tial rfl rfl rfl hi ?_
    refine bi_Tr 1 (s' := ((if (st_g s 90 ((7 : Int32)).toNatClampNeg) ≤ x0 then 20 else 16), [(0, .ref 77), (1, .int x0)], [.ref 77], st_mm s)) rfl (bi_Tif (fun hc => ?_) (fun hc => ?_))
    · have h := h.1 hc
      refine bi_Tr 2 (s' := (22, [(0, .ref 77), (1, .int x0)], [.int (1 : Int32), .int (0 : Int32), .ref 77], st_mm s)) rfl ?_
      refine bi_TcI (as := [.ref 77, .int (0 : Int32), .int (1 : Int32)]) rfl rfl ?_
      refine cI.mono h (fun r2 s2 h => ?_) (fun _ _ h => h.elim)
      obtain ⟨hi, h⟩ := h
      exact bi_Tv rfl hi (Or.inl ⟨_, _, rfl, h⟩)
    · have h := h.2 hc
      refine bi_Tr 3 (s' := (22, [(0, .ref 77), (1, .int x0)], [.int (1 : Int32), .int (1 : Int32), .ref 77], st_mm s)) rfl ?_
      refine bi_TcI (as := [.ref 77, .int (1 : Int32), .int (1 : Int32)]) rfl rfl ?_
      refine cI.mono h (fun r3 s3 h => ?_) (fun _ _ h => h.elim)
      obtain ⟨hi, h⟩ := h
      exact bi_Tv rfl hi (Or.inl ⟨_, _, rfl, h⟩)
/-- PolicyRowsModel.isWhat(II)Z -/
theorem en_X12_isWhat {X : bi_X} {d : Nat} {K : Int32 → bi_St → Prop} {E : Nat → bi_St → Prop} {s : bi_St} {x0 : Int32} {x1 : Int32}  (h : cI X d 164 [.int x0, .int (0 : Int32), .int x1] s (fun (r1 : Int32) (s1 : bi_St) => cI X d 163 [.ref 77, .int r1, .int (1 : Int32)] s1 (fun (r2 : Int32) (s2 : bi_St) => bi_bool r2 = true ∧ (K r2 s2)) (fun _ _ => False)) (fun _ _ => False)) : cI X (d + 1) 224 [.ref 77, .int x0, .int x1] s K E := by
  show bi_T _ _ _ _ _
  refine bi_Tr 4 (s' := (4, [(0, .ref 77), (1, .int x0), (2, .int x1)], [.int x1, .int (0 : Int32), .int x0, .ref 77], st_mm s)) rfl ?_
  refine bi_TcI (as := [.int x0, .int (0 : Int32), .int x1]) rfl rfl ?_
  refine cI.mono h (fun r1 s1 h => ?_) (fun _ _ h => h.elim)
  refine bi_Tr 1 (s' := (8, [(0, .ref 77), (1, .int x0), (2, .int x1)], [.int (1 : Int32), .int r1, .ref 77], st_mm s1)) rfl ?_
  refine bi_TcI (as := [.ref 77, .int r1, .int (1 : Int32)]) rfl rfl ?_
  refine cI.mono h (fun r2 s2 h => ?_) (fun _ _ h => h.elim)
  obtain ⟨hi, h⟩ := h
  exact bi_Tv rfl hi (Or.inl ⟨_, _, rfl, h⟩)
def at_X12_policiesOf_10 (X : bi_X) (d : Nat) (K : Int32 → bi_St → Prop) (E : Nat → bi_St → Prop) (s : bi_St) (y2 : Int32) (y3 : Int32) : Prop := bi_T X d 225 (10, [(0, .ref 77), (2, .int y2), (3, .int y3)], [], st_mm s) (st_RI K E)
theorem go_X12_policiesOf_10 {X : bi_X} {d : Nat} {K : Int32 → bi_St → Prop} {E : Nat → bi_St → Prop}  {s : bi_St} {y2 : Int32} {y3 : Int32}  (h : (((st_g s 77 29) ≤ y3) → K y2 s) ∧ (¬ ((st_g s 77 29) ≤ y3) → cI X d 213 [.ref 77, .int (0 : Int32), .int y3, .int (0 : Int32)] s (fun (r2 : Int32) (s2 : bi_St) => ((r2 = 0) → at_X12_policiesOf_10 X (d + 1) K E s2 ((y2 ||| (0 : Int32))) ((y3 + (1 : Int32)))) ∧ (¬ (r2 = 0) → at_X12_policiesOf_10 X (d + 1) K E s2 ((y2 ||| ((1 : Int32) <<< (y3 &&& 31)))) ((y3 + (1 : Int32))))) (fun _ _ => False))) : at_X12_policiesOf_10 X (d + 1) K E s y2 y3 := by
  show bi_T _ _ _ _ _
  refine bi_Tr 4 (s' := ((if (st_g s 77 29) ≤ y3 then 44 else 18), [(0, .ref 77), (2, .int y2), (3, .int y3)], [], st_mm s)) rfl (bi_Tif (fun hc => ?_) (fun hc => ?_))
  · have h := h.1 hc
    refine bi_Tr 1 (s' := (45, [(0, .ref 77), (2, .int y2), (3, .int y3)], [.int y2], st_mm s)) rfl ?_
    exact bi_Tv rfl rfl (Or.inl ⟨_, _, rfl, h⟩)
  · have h := h.2 hc
    refine bi_Tr 5 (s' := (23, [(0, .ref 77), (2, .int y2), (3, .int y3)], [.int (0 : Int32), .int y3, .int (0 : Int32), .ref 77, .int y2], st_mm s)) rfl ?_
    refine bi_TcI (as := [.ref 77, .int (0 : Int32), .int y3, .int (0 : Int32)]) rfl rfl ?_
    refine cI.mono h (fun r2 s2 h => ?_) (fun _ _ h => h.elim)
    refine bi_Tr 1 (s' := ((if r2 = 0 then 35 else 29), [(0, .ref 77), (2, .int y2), (3, .int y3)], [.int y2], st_mm s2)) rfl (bi_Tif (fun hc => ?_) (fun hc => ?_))
    · have h := h.1 hc
      refine bi_Tr 5 (s' := (10, [(3, .int (y3 + (1 : Int32))), (2, .int (y2 ||| (0 : Int32))), (0, .ref 77)], [], st_mm s2)) rfl ?_
      exact bi_Tww h rfl rfl ⟨rfl, rfl, rfl, trivial⟩
    · have h := h.2 hc
      refine bi_Tr 8 (s' := (10, [(3, .int (y3 + (1 : Int32))), (2, .int (y2 ||| ((1 : Int32) <<< (y3 &&& 31)))), (0, .ref 77)], [], st_mm s2)) rfl ?_
      exact bi_Tww h rfl rfl ⟨rfl, rfl, rfl, trivial⟩
/-- PolicyRowsModel.policiesOf(I)I -/
theorem en_X12_policiesOf {X : bi_X} {d : Nat} {K : Int32 → bi_St → Prop} {E : Nat → bi_St → Prop} {s : bi_St} {x0 : Int32}  (h : cV X d 211 [.ref 77, .int (0 : Int32), .int x0] s (fun (s1 : bi_St) => at_X12_policiesOf_10 X (d + 1) K E s1 ((0 : Int32)) ((0 : Int32))) (fun _ _ => False)) : cI X (d + 1) 225 [.ref 77, .int x0] s K E := by
  show bi_T _ _ _ _ _
  refine bi_Tr 5 (s' := (5, [(2, .int (0 : Int32)), (0, .ref 77), (1, .int x0)], [.int x0, .int (0 : Int32), .ref 77], st_mm s)) rfl ?_
  refine bi_TcV (as := [.ref 77, .int (0 : Int32), .int x0]) rfl rfl ?_
  refine cV.mono h (fun s1 h => ?_) (fun _ _ h => h.elim)
  refine bi_Tr 2 (s' := (10, [(3, .int (0 : Int32)), (2, .int (0 : Int32)), (0, .ref 77), (1, .int x0)], [], st_mm s1)) rfl ?_
  exact bi_Tww h rfl rfl ⟨rfl, rfl, rfl, trivial⟩
/-- PolicyRowsModel.role(II)I -/
theorem en_X12_role {X : bi_X} {d : Nat} {K : Int32 → bi_St → Prop} {E : Nat → bi_St → Prop} {s : bi_St} {x0 : Int32} {x1 : Int32}  (h : cI X d 222 [.ref 77, .int x0] (st_p s 77 0 (0 : Int32)) (fun (r1 : Int32) (s1 : bi_St) => ((r1 = 0) → K (0 : Int32) s1) ∧ (¬ (r1 = 0) → cI X d 224 [.ref 77, .int x1, .int (3 : Int32)] s1 (fun (r2 : Int32) (s2 : bi_St) => ((¬ r2 = 0) → ((¬ x1 = 0) → ((¬ x1 = (1 : Int32)) → ((¬ x1 = (2 : Int32)) → cI X d 225 [.ref 77, .int x0] s2 (fun (r3 : Int32) (s3 : bi_St) => K r3 s3) (fun _ _ => False)) ∧ (¬ (¬ x1 = (2 : Int32)) → cI X d 217 [.ref 77, .int (0 : Int32), .int x0] s2 (fun (r4 : Int32) (s4 : bi_St) => K r4 s4) (fun _ _ => False))) ∧ (¬ (¬ x1 = (1 : Int32)) → cI X d 208 [.ref 77, .int (0 : Int32), .int x0] s2 (fun (r5 : Int32) (s5 : bi_St) => K r5 s5) (fun _ _ => False))) ∧ (¬ (¬ x1 = 0) → bi_in x0 144 = true ∧ (K (st_g s2 90 (x0).toNatClampNeg) s2))) ∧ (¬ (¬ r2 = 0) → K (0 : Int32) s2)) (fun _ _ => False))) (fun _ _ => False)) : cI X (d + 1) 226 [.ref 77, .int x0, .int x1] s K E := by
  show bi_T _ _ _ _ _
  refine bi_Tr 5 (s' := (7, [(0, .ref 77), (1, .int x0), (2, .int x1)], [.int x0, .ref 77], st_mm (st_p s 77 0 (0 : Int32)))) rfl ?_
  refine bi_TcI (as := [.ref 77, .int x0]) rfl rfl ?_
  refine cI.mono h (fun r1 s1 h => ?_) (fun _ _ h => h.elim)
  refine bi_Tr 1 (s' := ((if r1 = 0 then 22 else 13), [(0, .ref 77), (1, .int x0), (2, .int x1)], [], st_mm s1)) rfl (bi_Tif (fun hc => ?_) (fun hc => ?_))
  · have h := h.1 hc
    refine bi_Tr 1 (s' := (23, [(0, .ref 77), (1, .int x0), (2, .int x1)], [.int (0 : Int32)], st_mm s1)) rfl ?_
    exact bi_Tv rfl rfl (Or.inl ⟨_, _, rfl, h⟩)
  · have h := h.2 hc
    refine bi_Tr 3 (s' := (16, [(0, .ref 77), (1, .int x0), (2, .int x1)], [.int (3 : Int32), .int x1, .ref 77], st_mm s1)) rfl ?_
    refine bi_TcI (as := [.ref 77, .int x1, .int (3 : Int32)]) rfl rfl ?_
    refine cI.mono h (fun r2 s2 h => ?_) (fun _ _ h => h.elim)
    refine bi_Tr 1 (s' := ((if ¬ r2 = 0 then 24 else 22), [(0, .ref 77), (1, .int x0), (2, .int x1)], [], st_mm s2)) rfl (bi_Tif (fun hc => ?_) (fun hc => ?_))
    · have h := h.1 hc
      refine bi_Tr 2 (s' := ((if ¬ x1 = 0 then 37 else 28), [(0, .ref 77), (1, .int x0), (2, .int x1)], [], st_mm s2)) rfl (bi_Tif (fun hc => ?_) (fun hc => ?_))
      · have h := h.1 hc
        refine bi_Tr 3 (s' := ((if ¬ x1 = (1 : Int32) then 51 else 42), [(0, .ref 77), (1, .int x0), (2, .int x1)], [], st_mm s2)) rfl (bi_Tif (fun hc => ?_) (fun hc => ?_))
        · have h := h.1 hc
          refine bi_Tr 3 (s' := ((if ¬ x1 = (2 : Int32) then 65 else 56), [(0, .ref 77), (1, .int x0), (2, .int x1)], [], st_mm s2)) rfl (bi_Tif (fun hc => ?_) (fun hc => ?_))
          · have h := h.1 hc
            refine bi_Tr 2 (s' := (67, [(0, .ref 77), (1, .int x0), (2, .int x1)], [.int x0, .ref 77], st_mm s2)) rfl ?_
            refine bi_TcI (as := [.ref 77, .int x0]) rfl rfl ?_
            refine cI.mono h (fun r3 s3 h => ?_) (fun _ _ h => h.elim)
            exact bi_Tv rfl rfl (Or.inl ⟨_, _, rfl, h⟩)
          · have h := h.2 hc
            refine bi_Tr 3 (s' := (59, [(0, .ref 77), (1, .int x0), (2, .int x1)], [.int x0, .int (0 : Int32), .ref 77], st_mm s2)) rfl ?_
            refine bi_TcI (as := [.ref 77, .int (0 : Int32), .int x0]) rfl rfl ?_
            refine cI.mono h (fun r4 s4 h => ?_) (fun _ _ h => h.elim)
            refine bi_Tr 1 (s' := (70, [(0, .ref 77), (1, .int x0), (2, .int x1)], [.int r4], st_mm s4)) rfl ?_
            exact bi_Tv rfl rfl (Or.inl ⟨_, _, rfl, h⟩)
        · have h := h.2 hc
          refine bi_Tr 3 (s' := (45, [(0, .ref 77), (1, .int x0), (2, .int x1)], [.int x0, .int (0 : Int32), .ref 77], st_mm s2)) rfl ?_
          refine bi_TcI (as := [.ref 77, .int (0 : Int32), .int x0]) rfl rfl ?_
          refine cI.mono h (fun r5 s5 h => ?_) (fun _ _ h => h.elim)
          refine bi_Tr 1 (s' := (70, [(0, .ref 77), (1, .int x0), (2, .int x1)], [.int r5], st_mm s5)) rfl ?_
          exact bi_Tv rfl rfl (Or.inl ⟨_, _, rfl, h⟩)
      · have h := h.2 hc
        refine bi_Tr 3 (s' := (33, [(0, .ref 77), (1, .int x0), (2, .int x1)], [.int x0, .ref 90], st_mm s2)) rfl ?_
        obtain ⟨hi, h⟩ := h
        refine bi_Tial rfl rfl rfl hi ?_
        refine bi_Tr 1 (s' := (70, [(0, .ref 77), (1, .int x0), (2, .int x1)], [.int (st_g s2 90 (x0).toNatClampNeg)], st_mm s2)) rfl ?_
        exact bi_Tv rfl rfl (Or.inl ⟨_, _, rfl, h⟩)
    · have h := h.2 hc
      refine bi_Tr 1 (s' := (23, [(0, .ref 77), (1, .int x0), (2, .int x1)], [.int (0 : Int32)], st_mm s2)) rfl ?_
      exact bi_Tv rfl rfl (Or.inl ⟨_, _, rfl, h⟩)
/-- PolicyRowsModel.cell(II)I -/
theorem en_X12_cell {X : bi_X} {d : Nat} {K : Int32 → bi_St → Prop} {E : Nat → bi_St → Prop} {s : bi_St} {x0 : Int32} {x1 : Int32}  (h : cI X d 223 [.ref 77, .int x0] (st_p s 77 0 (0 : Int32)) (fun (r1 : Int32) (s1 : bi_St) => ((r1 = 0) → K (0 : Int32) s1) ∧ (¬ (r1 = 0) → cI X d 164 [.int x1, .int (0 : Int32), .int ((st_g s1 77 28) - (1 : Int32))] s1 (fun (r2 : Int32) (s2 : bi_St) => cI X d 163 [.ref 77, .int r2, .int (1 : Int32)] s2 (fun (r3 : Int32) (s3 : bi_St) => ((¬ r3 = 0) → bi_in (((8 : Int32) + ((4 : Int32) * x0)) + x1) 144 = true ∧ (K (st_g s3 90 ((((8 : Int32) + ((4 : Int32) * x0)) + x1)).toNatClampNeg) s3)) ∧ (¬ (¬ r3 = 0) → K (0 : Int32) s3)) (fun _ _ => False)) (fun _ _ => False))) (fun _ _ => False)) : cI X (d + 1) 227 [.ref 77, .int x0, .int x1] s K E := by
  show bi_T _ _ _ _ _
  refine bi_Tr 5 (s' := (7, [(0, .ref 77), (1, .int x0), (2, .int x1)], [.int x0, .ref 77], st_mm (st_p s 77 0 (0 : Int32)))) rfl ?_
  refine bi_TcI (as := [.ref 77, .int x0]) rfl rfl ?_
  refine cI.mono h (fun r1 s1 h => ?_) (fun _ _ h => h.elim)
  refine bi_Tr 1 (s' := ((if r1 = 0 then 32 else 13), [(0, .ref 77), (1, .int x0), (2, .int x1)], [], st_mm s1)) rfl (bi_Tif (fun hc => ?_) (fun hc => ?_))
  · have h := h.1 hc
    refine bi_Tr 1 (s' := (33, [(0, .ref 77), (1, .int x0), (2, .int x1)], [.int (0 : Int32)], st_mm s1)) rfl ?_
    exact bi_Tv rfl rfl (Or.inl ⟨_, _, rfl, h⟩)
  · have h := h.2 hc
    refine bi_Tr 7 (s' := (22, [(0, .ref 77), (1, .int x0), (2, .int x1)], [.int ((st_g s1 77 28) - (1 : Int32)), .int (0 : Int32), .int x1, .ref 77], st_mm s1)) rfl ?_
    refine bi_TcI (as := [.int x1, .int (0 : Int32), .int ((st_g s1 77 28) - (1 : Int32))]) rfl rfl ?_
    refine cI.mono h (fun r2 s2 h => ?_) (fun _ _ h => h.elim)
    refine bi_Tr 1 (s' := (26, [(0, .ref 77), (1, .int x0), (2, .int x1)], [.int (1 : Int32), .int r2, .ref 77], st_mm s2)) rfl ?_
    refine bi_TcI (as := [.ref 77, .int r2, .int (1 : Int32)]) rfl rfl ?_
    refine cI.mono h (fun r3 s3 h => ?_) (fun _ _ h => h.elim)
    refine bi_Tr 1 (s' := ((if ¬ r3 = 0 then 34 else 32), [(0, .ref 77), (1, .int x0), (2, .int x1)], [], st_mm s3)) rfl (bi_Tif (fun hc => ?_) (fun hc => ?_))
    · have h := h.1 hc
      refine bi_Tr 9 (s' := (46, [(0, .ref 77), (1, .int x0), (2, .int x1)], [.int (((8 : Int32) + ((4 : Int32) * x0)) + x1), .ref 90], st_mm s3)) rfl ?_
      obtain ⟨hi, h⟩ := h
      refine bi_Tial rfl rfl rfl hi ?_
      exact bi_Tv rfl rfl (Or.inl ⟨_, _, rfl, h⟩)
    · have h := h.2 hc
      refine bi_Tr 1 (s' := (33, [(0, .ref 77), (1, .int x0), (2, .int x1)], [.int (0 : Int32)], st_mm s3)) rfl ?_
      exact bi_Tv rfl rfl (Or.inl ⟨_, _, rfl, h⟩)
def at_X12_policy_40 (X : bi_X) (d : Nat) (K : Int32 → bi_St → Prop) (E : Nat → bi_St → Prop) (s : bi_St)  : Prop := bi_T X d 228 (40, [], [], st_mm s) (st_RI K E)
theorem go_X12_policy_40 {X : bi_X} {d : Nat} {K : Int32 → bi_St → Prop} {E : Nat → bi_St → Prop}  {s : bi_St}   (h : K (0 : Int32) s) : at_X12_policy_40 X (d + 1) K E s  := by
  show bi_T _ _ _ _ _
  refine bi_Tr 1 (s' := (41, [], [.int (0 : Int32)], st_mm s)) rfl ?_
  exact bi_Tv rfl rfl (Or.inl ⟨_, _, rfl, h⟩)
/-- PolicyRowsModel.policy(II)I -/
theorem en_X12_policy {X : bi_X} {d : Nat} {K : Int32 → bi_St → Prop} {E : Nat → bi_St → Prop} {s : bi_St} {x0 : Int32} {x1 : Int32}  (h : ((x0 < 0) → cI X d 163 [.ref 77, .int (0 : Int32), .int (1 : Int32)] (st_p s 77 0 (0 : Int32)) (fun (r1 : Int32) (s1 : bi_St) => ((r1 = 0) → at_X12_policy_40 X (d + 1) K E s1) ∧ (¬ (r1 = 0) → cI X d 224 [.ref 77, .int x1, .int (6 : Int32)] s1 (fun (r2 : Int32) (s2 : bi_St) => ((¬ r2 = 0) → ((x1 = (3 : Int32)) → bi_in (6 : Int32) 144 = true ∧ (K (((st_g s2 90 ((6 : Int32)).toNatClampNeg) >>> (x0 &&& 31)) &&& (1 : Int32)) s2)) ∧ (¬ (x1 = (3 : Int32)) → ((x1 = (4 : Int32)) → bi_in (((7 : Int32) * x0) + (5 : Int32)) 56 = true ∧ (K (st_g s2 83 ((((7 : Int32) * x0) + (5 : Int32))).toNatClampNeg) s2)) ∧ (¬ (x1 = (4 : Int32)) → ((x1 = (5 : Int32)) → bi_in (((7 : Int32) * x0) + (6 : Int32)) 56 = true ∧ (K (st_g s2 83 ((((7 : Int32) * x0) + (6 : Int32))).toNatClampNeg) s2)) ∧ (¬ (x1 = (5 : Int32)) → ((x1 = (6 : Int32)) → cI X d 219 [.ref 77, .int x0] s2 (fun (r3 : Int32) (s3 : bi_St) => K r3 s3) (fun _ _ => False)) ∧ (¬ (x1 = (6 : Int32)) → bi_in (((7 : Int32) * x0) + x1) 56 = true ∧ (K (st_g s2 83 ((((7 : Int32) * x0) + x1)).toNatClampNeg) s2)))))) ∧ (¬ (¬ r2 = 0) → at_X12_policy_40 X (d + 1) K E s2)) (fun _ _ => False))) (fun _ _ => False)) ∧ (¬ (x0 < 0) → (((st_g (st_p s 77 0 (0 : Int32)) 77 29) ≤ x0) → cI X d 163 [.ref 77, .int (0 : Int32), .int (1 : Int32)] (st_p s 77 0 (0 : Int32)) (fun (r4 : Int32) (s4 : bi_St) => ((r4 = 0) → at_X12_policy_40 X (d + 1) K E s4) ∧ (¬ (r4 = 0) → cI X d 224 [.ref 77, .int x1, .int (6 : Int32)] s4 (fun (r5 : Int32) (s5 : bi_St) => ((¬ r5 = 0) → ((x1 = (3 : Int32)) → bi_in (6 : Int32) 144 = true ∧ (K (((st_g s5 90 ((6 : Int32)).toNatClampNeg) >>> (x0 &&& 31)) &&& (1 : Int32)) s5)) ∧ (¬ (x1 = (3 : Int32)) → ((x1 = (4 : Int32)) → bi_in (((7 : Int32) * x0) + (5 : Int32)) 56 = true ∧ (K (st_g s5 83 ((((7 : Int32) * x0) + (5 : Int32))).toNatClampNeg) s5)) ∧ (¬ (x1 = (4 : Int32)) → ((x1 = (5 : Int32)) → bi_in (((7 : Int32) * x0) + (6 : Int32)) 56 = true ∧ (K (st_g s5 83 ((((7 : Int32) * x0) + (6 : Int32))).toNatClampNeg) s5)) ∧ (¬ (x1 = (5 : Int32)) → ((x1 = (6 : Int32)) → cI X d 219 [.ref 77, .int x0] s5 (fun (r6 : Int32) (s6 : bi_St) => K r6 s6) (fun _ _ => False)) ∧ (¬ (x1 = (6 : Int32)) → bi_in (((7 : Int32) * x0) + x1) 56 = true ∧ (K (st_g s5 83 ((((7 : Int32) * x0) + x1)).toNatClampNeg) s5)))))) ∧ (¬ (¬ r5 = 0) → at_X12_policy_40 X (d + 1) K E s5)) (fun _ _ => False))) (fun _ _ => False)) ∧ (¬ ((st_g (st_p s 77 0 (0 : Int32)) 77 29) ≤ x0) → cI X d 163 [.ref 77, .int (1 : Int32), .int (1 : Int32)] (st_p s 77 0 (0 : Int32)) (fun (r7 : Int32) (s7 : bi_St) => ((r7 = 0) → at_X12_policy_40 X (d + 1) K E s7) ∧ (¬ (r7 = 0) → cI X d 224 [.ref 77, .int x1, .int (6 : Int32)] s7 (fun (r8 : Int32) (s8 : bi_St) => ((¬ r8 = 0) → ((x1 = (3 : Int32)) → bi_in (6 : Int32) 144 = true ∧ (K (((st_g s8 90 ((6 : Int32)).toNatClampNeg) >>> (x0 &&& 31)) &&& (1 : Int32)) s8)) ∧ (¬ (x1 = (3 : Int32)) → ((x1 = (4 : Int32)) → bi_in (((7 : Int32) * x0) + (5 : Int32)) 56 = true ∧ (K (st_g s8 83 ((((7 : Int32) * x0) + (5 : Int32))).toNatClampNeg) s8)) ∧ (¬ (x1 = (4 : Int32)) → ((x1 = (5 : Int32)) → bi_in (((7 : Int32) * x0) + (6 : Int32)) 56 = true ∧ (K (st_g s8 83 ((((7 : Int32) * x0) + (6 : Int32))).toNatClampNeg) s8)) ∧ (¬ (x1 = (5 : Int32)) → ((x1 = (6 : Int32)) → cI X d 219 [.ref 77, .int x0] s8 (fun (r9 : Int32) (s9 : bi_St) => K r9 s9) (fun _ _ => False)) ∧ (¬ (x1 = (6 : Int32)) → bi_in (((7 : Int32) * x0) + x1) 56 = true ∧ (K (st_g s8 83 ((((7 : Int32) * x0) + x1)).toNatClampNeg) s8)))))) ∧ (¬ (¬ r8 = 0) → at_X12_policy_40 X (d + 1) K E s8)) (fun _ _ => False))) (fun _ _ => False)))) : cI X (d + 1) 228 [.ref 77, .int x0, .int x1] s K E := by
  show bi_T _ _ _ _ _
  refine bi_Tr 6 (s' := ((if x0 < 0 then 22 else 10), [(0, .ref 77), (1, .int x0), (2, .int x1)], [.ref 77], st_mm (st_p s 77 0 (0 : Int32)))) rfl (bi_Tif (fun hc => ?_) (fun hc => ?_))
  · have h := h.1 hc
    refine bi_Tr 2 (s' := (24, [(0, .ref 77), (1, .int x0), (2, .int x1)], [.int (1 : Int32), .int (0 : Int32), .ref 77], st_mm (st_p s 77 0 (0 : Int32)))) rfl ?_
    refine bi_TcI (as := [.ref 77, .int (0 : Int32), .int (1 : Int32)]) rfl rfl ?_
    refine cI.mono h (fun r1 s1 h => ?_) (fun _ _ h => h.elim)
    refine bi_Tr 1 (s' := ((if r1 = 0 then 40 else 30), [(0, .ref 77), (1, .int x0), (2, .int x1)], [], st_mm s1)) rfl (bi_Tif (fun hc => ?_) (fun hc => ?_))
    · have h := h.1 hc
      exact bi_Tww h rfl rfl trivial
    · have h := h.2 hc
      refine bi_Tr 3 (s' := (34, [(0, .ref 77), (1, .int x0), (2, .int x1)], [.int (6 : Int32), .int x1, .ref 77], st_mm s1)) rfl ?_
      refine bi_TcI (as := [.ref 77, .int x1, .int (6 : Int32)]) rfl rfl ?_
      refine cI.mono h (fun r2 s2 h => ?_) (fun _ _ h => h.elim)
      refine bi_Tr 1 (s' := ((if ¬ r2 = 0 then 42 else 40), [(0, .ref 77), (1, .int x0), (2, .int x1)], [], st_mm s2)) rfl (bi_Tif (fun hc => ?_) (fun hc => ?_))
      · have h := h.1 hc
        refine bi_Tr 1 (s' := (43, [(0, .ref 77), (1, .int x0), (2, .int x1)], [.int x1], st_mm s2)) rfl ?_
        refine bi_Tsw rfl (fun t ht => ?_) (bi_swn (b := 115) rfl (by decide) (by decide))
        by_cases hc : x1 = (3 : Int32)
        · rw [hc] at ht; cases ht
          have h := h.1 hc
          refine bi_Tr 3 (s' := (78, [(0, .ref 77), (1, .int x0), (2, .int x1)], [.int (6 : Int32), .ref 90], st_mm s2)) rfl ?_
          obtain ⟨hi, h⟩ := h
          refine bi_Tial rfl rfl rfl hi ?_
          refine bi_Tr 4 (s' := (83, [(0, .ref 77), (1, .int x0), (2, .int x1)], [.int (((st_g s2 90 ((6 : Int32)).toNatClampNeg) >>> (x0 &&& 31)) &&& (1 : Int32))], st_mm s2)) rfl ?_
          exact bi_Tv rfl rfl (Or.inl ⟨_, _, rfl, h⟩)
        have h := h.2 hc
        have hn3 := lv_neT hc (a := 3) rfl
        by_cases hc : x1 = (4 : Int32)
        · rw [hc] at ht; cases ht
          have h := h.1 hc
          refine bi_Tr 7 (s' := (94, [(0, .ref 77), (1, .int x0), (2, .int x1)], [.int (((7 : Int32) * x0) + (5 : Int32)), .ref 83], st_mm s2)) rfl ?_
          obtain ⟨hi, h⟩ := h
          refine bi_Tial rfl rfl rfl hi ?_
          exact bi_Tv rfl rfl (Or.inl ⟨_, _, rfl, h⟩)
        have h := h.2 hc
        have hn4 := lv_neT hc (a := 4) rfl
        by_cases hc : x1 = (5 : Int32)
        · rw [hc] at ht; cases ht
          have h := h.1 hc
          refine bi_Tr 7 (s' := (107, [(0, .ref 77), (1, .int x0), (2, .int x1)], [.int (((7 : Int32) * x0) + (6 : Int32)), .ref 83], st_mm s2)) rfl ?_
          obtain ⟨hi, h⟩ := h
          refine bi_Tial rfl rfl rfl hi ?_
          exact bi_Tv rfl rfl (Or.inl ⟨_, _, rfl, h⟩)
        have h := h.2 hc
        have hn5 := lv_neT hc (a := 5) rfl
        by_cases hc : x1 = (6 : Int32)
        · rw [hc] at ht; cases ht
          have h := h.1 hc
          refine bi_Tr 2 (s' := (111, [(0, .ref 77), (1, .int x0), (2, .int x1)], [.int x0, .ref 77], st_mm s2)) rfl ?_
          refine bi_TcI (as := [.ref 77, .int x0]) rfl rfl ?_
          refine cI.mono h (fun r3 s3 h => ?_) (fun _ _ h => h.elim)
          exact bi_Tv rfl rfl (Or.inl ⟨_, _, rfl, h⟩)
        have h := h.2 hc
        have hn6 := lv_neT hc (a := 6) rfl
        have ht : bi_tg 43 72 = some t := bi_swd ht (fun h1 h2 => by omega)
        cases ht
        refine bi_Tr 7 (s' := (125, [(0, .ref 77), (1, .int x0), (2, .int x1)], [.int (((7 : Int32) * x0) + x1), .ref 83], st_mm s2)) rfl ?_
        obtain ⟨hi, h⟩ := h
        refine bi_Tial rfl rfl rfl hi ?_
        exact bi_Tv rfl rfl (Or.inl ⟨_, _, rfl, h⟩)
      · have h := h.2 hc
        exact bi_Tww h rfl rfl trivial
  · have h := h.2 hc
    refine bi_Tr 4 (s' := ((if (st_g (st_p s 77 0 (0 : Int32)) 77 29) ≤ x0 then 22 else 18), [(0, .ref 77), (1, .int x0), (2, .int x1)], [.ref 77], st_mm (st_p s 77 0 (0 : Int32)))) rfl (bi_Tif (fun hc => ?_) (fun hc => ?_))
    · have h := h.1 hc
      refine bi_Tr 2 (s' := (24, [(0, .ref 77), (1, .int x0), (2, .int x1)], [.int (1 : Int32), .int (0 : Int32), .ref 77], st_mm (st_p s 77 0 (0 : Int32)))) rfl ?_
      refine bi_TcI (as := [.ref 77, .int (0 : Int32), .int (1 : Int32)]) rfl rfl ?_
      refine cI.mono h (fun r4 s4 h => ?_) (fun _ _ h => h.elim)
      refine bi_Tr 1 (s' := ((if r4 = 0 then 40 else 30), [(0, .ref 77), (1, .int x0), (2, .int x1)], [], st_mm s4)) rfl (bi_Tif (fun hc => ?_) (fun hc => ?_))
      · have h := h.1 hc
        exact bi_Tww h rfl rfl trivial
      · have h := h.2 hc
        refine bi_Tr 3 (s' := (34, [(0, .ref 77), (1, .int x0), (2, .int x1)], [.int (6 : Int32), .int x1, .ref 77], st_mm s4)) rfl ?_
        refine bi_TcI (as := [.ref 77, .int x1, .int (6 : Int32)]) rfl rfl ?_
        refine cI.mono h (fun r5 s5 h => ?_) (fun _ _ h => h.elim)
        refine bi_Tr 1 (s' := ((if ¬ r5 = 0 then 42 else 40), [(0, .ref 77), (1, .int x0), (2, .int x1)], [], st_mm s5)) rfl (bi_Tif (fun hc => ?_) (fun hc => ?_))
        · have h := h.1 hc
          refine bi_Tr 1 (s' := (43, [(0, .ref 77), (1, .int x0), (2, .int x1)], [.int x1], st_mm s5)) rfl ?_
          refine bi_Tsw rfl (fun t ht => ?_) (bi_swn (b := 115) rfl (by decide) (by decide))
          by_cases hc : x1 = (3 : Int32)
          · rw [hc] at ht; cases ht
            have h := h.1 hc
            refine bi_Tr 3 (s' := (78, [(0, .ref 77), (1, .int x0), (2, .int x1)], [.int (6 : Int32), .ref 90], st_mm s5)) rfl ?_
            obtain ⟨hi, h⟩ := h
            refine bi_Tial rfl rfl rfl hi ?_
            refine bi_Tr 4 (s' := (83, [(0, .ref 77), (1, .int x0), (2, .int x1)], [.int (((st_g s5 90 ((6 : Int32)).toNatClampNeg) >>> (x0 &&& 31)) &&& (1 : Int32))], st_mm s5)) rfl ?_
            exact bi_Tv rfl rfl (Or.inl ⟨_, _, rfl, h⟩)
          have h := h.2 hc
          have hn3 := lv_neT hc (a := 3) rfl
          by_cases hc : x1 = (4 : Int32)
          · rw [hc] at ht; cases ht
            have h := h.1 hc
            refine bi_Tr 7 (s' := (94, [(0, .ref 77), (1, .int x0), (2, .int x1)], [.int (((7 : Int32) * x0) + (5 : Int32)), .ref 83], st_mm s5)) rfl ?_
            obtain ⟨hi, h⟩ := h
            refine bi_Tial rfl rfl rfl hi ?_
            exact bi_Tv rfl rfl (Or.inl ⟨_, _, rfl, h⟩)
          have h := h.2 hc
          have hn4 := lv_neT hc (a := 4) rfl
          by_cases hc : x1 = (5 : Int32)
          · rw [hc] at ht; cases ht
            have h := h.1 hc
            refine bi_Tr 7 (s' := (107, [(0, .ref 77), (1, .int x0), (2, .int x1)], [.int (((7 : Int32) * x0) + (6 : Int32)), .ref 83], st_mm s5)) rfl ?_
            obtain ⟨hi, h⟩ := h
            refine bi_Tial rfl rfl rfl hi ?_
            exact bi_Tv rfl rfl (Or.inl ⟨_, _, rfl, h⟩)
          have h := h.2 hc
          have hn5 := lv_neT hc (a := 5) rfl
          by_cases hc : x1 = (6 : Int32)
          · rw [hc] at ht; cases ht
            have h := h.1 hc
            refine bi_Tr 2 (s' := (111, [(0, .ref 77), (1, .int x0), (2, .int x1)], [.int x0, .ref 77], st_mm s5)) rfl ?_
            refine bi_TcI (as := [.ref 77, .int x0]) rfl rfl ?_
            refine cI.mono h (fun r6 s6 h => ?_) (fun _ _ h => h.elim)
            exact bi_Tv rfl rfl (Or.inl ⟨_, _, rfl, h⟩)
          have h := h.2 hc
          have hn6 := lv_neT hc (a := 6) rfl
          have ht : bi_tg 43 72 = some t := bi_swd ht (fun h1 h2 => by omega)
          cases ht
          refine bi_Tr 7 (s' := (125, [(0, .ref 77), (1, .int x0), (2, .int x1)], [.int (((7 : Int32) * x0) + x1), .ref 83], st_mm s5)) rfl ?_
          obtain ⟨hi, h⟩ := h
          refine bi_Tial rfl rfl rfl hi ?_
          exact bi_Tv rfl rfl (Or.inl ⟨_, _, rfl, h⟩)
        · have h := h.2 hc
          exact bi_Tww h rfl rfl trivial
    · have h := h.2 hc
      refine bi_Tr 3 (s' := (24, [(0, .ref 77), (1, .int x0), (2, .int x1)], [.int (1 : Int32), .int (1 : Int32), .ref 77], st_mm (st_p s 77 0 (0 : Int32)))) rfl ?_
      refine bi_TcI (as := [.ref 77, .int (1 : Int32), .int (1 : Int32)]) rfl rfl ?_
      refine cI.mono h (fun r7 s7 h => ?_) (fun _ _ h => h.elim)
      refine bi_Tr 1 (s' := ((if r7 = 0 then 40 else 30), [(0, .ref 77), (1, .int x0), (2, .int x1)], [], st_mm s7)) rfl (bi_Tif (fun hc => ?_) (fun hc => ?_))
      · have h := h.1 hc
        exact bi_Tww h rfl rfl trivial
      · have h := h.2 hc
        refine bi_Tr 3 (s' := (34, [(0, .ref 77), (1, .int x0), (2, .int x1)], [.int (6 : Int32), .int x1, .ref 77], st_mm s7)) rfl ?_
        refine bi_TcI (as := [.ref 77, .int x1, .int (6 : Int32)]) rfl rfl ?_
        refine cI.mono h (fun r8 s8 h => ?_) (fun _ _ h => h.elim)
        refine bi_Tr 1 (s' := ((if ¬ r8 = 0 then 42 else 40), [(0, .ref 77), (1, .int x0), (2, .int x1)], [], st_mm s8)) rfl (bi_Tif (fun hc => ?_) (fun hc => ?_))
        · have h := h.1 hc
          refine bi_Tr 1 (s' := (43, [(0, .ref 77), (1, .int x0), (2, .int x1)], [.int x1], st_mm s8)) rfl ?_
          refine bi_Tsw rfl (fun t ht => ?_) (bi_swn (b := 115) rfl (by decide) (by decide))
          by_cases hc : x1 = (3 : Int32)
          · rw [hc] at ht; cases ht
            have h := h.1 hc
            refine bi_Tr 3 (s' := (78, [(0, .ref 77), (1, .int x0), (2, .int x1)], [.int (6 : Int32), .ref 90], st_mm s8)) rfl ?_
            obtain ⟨hi, h⟩ := h
            refine bi_Tial rfl rfl rfl hi ?_
            refine bi_Tr 4 (s' := (83, [(0, .ref 77), (1, .int x0), (2, .int x1)], [.int (((st_g s8 90 ((6 : Int32)).toNatClampNeg) >>> (x0 &&& 31)) &&& (1 : Int32))], st_mm s8)) rfl ?_
            exact bi_Tv rfl rfl (Or.inl ⟨_, _, rfl, h⟩)
          have h := h.2 hc
          have hn3 := lv_neT hc (a := 3) rfl
          by_cases hc : x1 = (4 : Int32)
          · rw [hc] at ht; cases ht
            have h := h.1 hc
            refine bi_Tr 7 (s' := (94, [(0, .ref 77), (1, .int x0), (2, .int x1)], [.int (((7 : Int32) * x0) + (5 : Int32)), .ref 83], st_mm s8)) rfl ?_
            obtain ⟨hi, h⟩ := h
            refine bi_Tial rfl rfl rfl hi ?_
            exact bi_Tv rfl rfl (Or.inl ⟨_, _, rfl, h⟩)
          have h := h.2 hc
          have hn4 := lv_neT hc (a := 4) rfl
          by_cases hc : x1 = (5 : Int32)
          · rw [hc] at ht; cases ht
            have h := h.1 hc
            refine bi_Tr 7 (s' := (107, [(0, .ref 77), (1, .int x0), (2, .int x1)], [.int (((7 : Int32) * x0) + (6 : Int32)), .ref 83], st_mm s8)) rfl ?_
            obtain ⟨hi, h⟩ := h
            refine bi_Tial rfl rfl rfl hi ?_
            exact bi_Tv rfl rfl (Or.inl ⟨_, _, rfl, h⟩)
          have h := h.2 hc
          have hn5 := lv_neT hc (a := 5) rfl
          by_cases hc : x1 = (6 : Int32)
          · rw [hc] at ht; cases ht
            have h := h.1 hc
            refine bi_Tr 2 (s' := (111, [(0, .ref 77), (1, .int x0), (2, .int x1)], [.int x0, .ref 77], st_mm s8)) rfl ?_
            refine bi_TcI (as := [.ref 77, .int x0]) rfl rfl ?_
            refine cI.mono h (fun r9 s9 h => ?_) (fun _ _ h => h.elim)
            exact bi_Tv rfl rfl (Or.inl ⟨_, _, rfl, h⟩)
          have h := h.2 hc
          have hn6 := lv_neT hc (a := 6) rfl
          have ht : bi_tg 43 72 = some t := bi_swd ht (fun h1 h2 => by omega)
          cases ht
          refine bi_Tr 7 (s' := (125, [(0, .ref 77), (1, .int x0), (2, .int x1)], [.int (((7 : Int32) * x0) + x1), .ref 83], st_mm s8)) rfl ?_
          obtain ⟨hi, h⟩ := h
          refine bi_Tial rfl rfl rfl hi ?_
          exact bi_Tv rfl rfl (Or.inl ⟨_, _, rfl, h⟩)
        · have h := h.2 hc
          exact bi_Tww h rfl rfl trivial
/-- PolicyRowsModel.view(II)I -/
theorem en_X12_view {X : bi_X} {d : Nat} {K : Int32 → bi_St → Prop} {E : Nat → bi_St → Prop} {s : bi_St} {x0 : Int32} {x1 : Int32}  (h : ((x0 < 0) → cI X d 163 [.ref 77, .int (0 : Int32), .int (1 : Int32)] (st_p s 77 0 (0 : Int32)) (fun (r1 : Int32) (s1 : bi_St) => ((r1 = 0) → K (0 : Int32) s1) ∧ (¬ (r1 = 0) → cI X d 224 [.ref 77, .int x1, .int (4 : Int32)] s1 (fun (r2 : Int32) (s2 : bi_St) => ((¬ r2 = 0) → (((3 : Int32) ≤ x1) → bi_in ((((6 : Int32) * x0) + (1 : Int32)) + x1) 18 = true ∧ (K (st_g s2 85 (((((6 : Int32) * x0) + (1 : Int32)) + x1)).toNatClampNeg) s2)) ∧ (¬ ((3 : Int32) ≤ x1) → bi_in (((6 : Int32) * x0) + x1) 18 = true ∧ (K (st_g s2 85 ((((6 : Int32) * x0) + x1)).toNatClampNeg) s2))) ∧ (¬ (¬ r2 = 0) → K (0 : Int32) s2)) (fun _ _ => False))) (fun _ _ => False)) ∧ (¬ (x0 < 0) → (((st_g (st_p s 77 0 (0 : Int32)) 77 30) ≤ x0) → cI X d 163 [.ref 77, .int (0 : Int32), .int (1 : Int32)] (st_p s 77 0 (0 : Int32)) (fun (r3 : Int32) (s3 : bi_St) => ((r3 = 0) → K (0 : Int32) s3) ∧ (¬ (r3 = 0) → cI X d 224 [.ref 77, .int x1, .int (4 : Int32)] s3 (fun (r4 : Int32) (s4 : bi_St) => ((¬ r4 = 0) → (((3 : Int32) ≤ x1) → bi_in ((((6 : Int32) * x0) + (1 : Int32)) + x1) 18 = true ∧ (K (st_g s4 85 (((((6 : Int32) * x0) + (1 : Int32)) + x1)).toNatClampNeg) s4)) ∧ (¬ ((3 : Int32) ≤ x1) → bi_in (((6 : Int32) * x0) + x1) 18 = true ∧ (K (st_g s4 85 ((((6 : Int32) * x0) + x1)).toNatClampNeg) s4))) ∧ (¬ (¬ r4 = 0) → K (0 : Int32) s4)) (fun _ _ => False))) (fun _ _ => False)) ∧ (¬ ((st_g (st_p s 77 0 (0 : Int32)) 77 30) ≤ x0) → cI X d 163 [.ref 77, .int (1 : Int32), .int (1 : Int32)] (st_p s 77 0 (0 : Int32)) (fun (r5 : Int32) (s5 : bi_St) => ((r5 = 0) → K (0 : Int32) s5) ∧ (¬ (r5 = 0) → cI X d 224 [.ref 77, .int x1, .int (4 : Int32)] s5 (fun (r6 : Int32) (s6 : bi_St) => ((¬ r6 = 0) → (((3 : Int32) ≤ x1) → bi_in ((((6 : Int32) * x0) + (1 : Int32)) + x1) 18 = true ∧ (K (st_g s6 85 (((((6 : Int32) * x0) + (1 : Int32)) + x1)).toNatClampNeg) s6)) ∧ (¬ ((3 : Int32) ≤ x1) → bi_in (((6 : Int32) * x0) + x1) 18 = true ∧ (K (st_g s6 85 ((((6 : Int32) * x0) + x1)).toNatClampNeg) s6))) ∧ (¬ (¬ r6 = 0) → K (0 : Int32) s6)) (fun _ _ => False))) (fun _ _ => False)))) : cI X (d + 1) 229 [.ref 77, .int x0, .int x1] s K E := by
  show bi_T _ _ _ _ _
  refine bi_Tr 6 (s' := ((if x0 < 0 then 22 else 10), [(0, .ref 77), (1, .int x0), (2, .int x1)], [.ref 77], st_mm (st_p s 77 0 (0 : Int32)))) rfl (bi_Tif (fun hc => ?_) (fun hc => ?_))
  · have h := h.1 hc
    refine bi_Tr 2 (s' := (24, [(0, .ref 77), (1, .int x0), (2, .int x1)], [.int (1 : Int32), .int (0 : Int32), .ref 77], st_mm (st_p s 77 0 (0 : Int32)))) rfl ?_
    refine bi_TcI (as := [.ref 77, .int (0 : Int32), .int (1 : Int32)]) rfl rfl ?_
    refine cI.mono h (fun r1 s1 h => ?_) (fun _ _ h => h.elim)
    refine bi_Tr 1 (s' := ((if r1 = 0 then 39 else 30), [(0, .ref 77), (1, .int x0), (2, .int x1)], [], st_mm s1)) rfl (bi_Tif (fun hc => ?_) (fun hc => ?_))
    · have h := h.1 hc
      refine bi_Tr 1 (s' := (40, [(0, .ref 77), (1, .int x0), (2, .int x1)], [.int (0 : Int32)], st_mm s1)) rfl ?_
      exact bi_Tv rfl rfl (Or.inl ⟨_, _, rfl, h⟩)
    · have h := h.2 hc
      refine bi_Tr 3 (s' := (33, [(0, .ref 77), (1, .int x0), (2, .int x1)], [.int (4 : Int32), .int x1, .ref 77], st_mm s1)) rfl ?_
      refine bi_TcI (as := [.ref 77, .int x1, .int (4 : Int32)]) rfl rfl ?_
      refine cI.mono h (fun r2 s2 h => ?_) (fun _ _ h => h.elim)
      refine bi_Tr 1 (s' := ((if ¬ r2 = 0 then 41 else 39), [(0, .ref 77), (1, .int x0), (2, .int x1)], [], st_mm s2)) rfl (bi_Tif (fun hc => ?_) (fun hc => ?_))
      · have h := h.1 hc
        refine bi_Tr 3 (s' := ((if (3 : Int32) ≤ x1 then 60 else 46), [(0, .ref 77), (1, .int x0), (2, .int x1)], [], st_mm s2)) rfl (bi_Tif (fun hc => ?_) (fun hc => ?_))
        · have h := h.1 hc
          refine bi_Tr 9 (s' := (72, [(0, .ref 77), (1, .int x0), (2, .int x1)], [.int ((((6 : Int32) * x0) + (1 : Int32)) + x1), .ref 85], st_mm s2)) rfl ?_
          obtain ⟨hi, h⟩ := h
          refine bi_Tial rfl rfl rfl hi ?_
          exact bi_Tv rfl rfl (Or.inl ⟨_, _, rfl, h⟩)
        · have h := h.2 hc
          refine bi_Tr 7 (s' := (56, [(0, .ref 77), (1, .int x0), (2, .int x1)], [.int (((6 : Int32) * x0) + x1), .ref 85], st_mm s2)) rfl ?_
          obtain ⟨hi, h⟩ := h
          refine bi_Tial rfl rfl rfl hi ?_
          refine bi_Tr 1 (s' := (73, [(0, .ref 77), (1, .int x0), (2, .int x1)], [.int (st_g s2 85 ((((6 : Int32) * x0) + x1)).toNatClampNeg)], st_mm s2)) rfl ?_
          exact bi_Tv rfl rfl (Or.inl ⟨_, _, rfl, h⟩)
      · have h := h.2 hc
        refine bi_Tr 1 (s' := (40, [(0, .ref 77), (1, .int x0), (2, .int x1)], [.int (0 : Int32)], st_mm s2)) rfl ?_
        exact bi_Tv rfl rfl (Or.inl ⟨_, _, rfl, h⟩)
  · have h := h.2 hc
    refine bi_Tr 4 (s' := ((if (st_g (st_p s 77 0 (0 : Int32)) 77 30) ≤ x0 then 22 else 18), [(0, .ref 77), (1, .int x0), (2, .int x1)], [.ref 77], st_mm (st_p s 77 0 (0 : Int32)))) rfl (bi_Tif (fun hc => ?_) (fun hc => ?_))
    · have h := h.1 hc
      refine bi_Tr 2 (s' := (24, [(0, .ref 77), (1, .int x0), (2, .int x1)], [.int (1 : Int32), .int (0 : Int32), .ref 77], st_mm (st_p s 77 0 (0 : Int32)))) rfl ?_
      refine bi_TcI (as := [.ref 77, .int (0 : Int32), .int (1 : Int32)]) rfl rfl ?_
      refine cI.mono h (fun r3 s3 h => ?_) (fun _ _ h => h.elim)
      refine bi_Tr 1 (s' := ((if r3 = 0 then 39 else 30), [(0, .ref 77), (1, .int x0), (2, .int x1)], [], st_mm s3)) rfl (bi_Tif (fun hc => ?_) (fun hc => ?_))
      · have h := h.1 hc
        refine bi_Tr 1 (s' := (40, [(0, .ref 77), (1, .int x0), (2, .int x1)], [.int (0 : Int32)], st_mm s3)) rfl ?_
        exact bi_Tv rfl rfl (Or.inl ⟨_, _, rfl, h⟩)
      · have h := h.2 hc
        refine bi_Tr 3 (s' := (33, [(0, .ref 77), (1, .int x0), (2, .int x1)], [.int (4 : Int32), .int x1, .ref 77], st_mm s3)) rfl ?_
        refine bi_TcI (as := [.ref 77, .int x1, .int (4 : Int32)]) rfl rfl ?_
        refine cI.mono h (fun r4 s4 h => ?_) (fun _ _ h => h.elim)
        refine bi_Tr 1 (s' := ((if ¬ r4 = 0 then 41 else 39), [(0, .ref 77), (1, .int x0), (2, .int x1)], [], st_mm s4)) rfl (bi_Tif (fun hc => ?_) (fun hc => ?_))
        · have h := h.1 hc
          refine bi_Tr 3 (s' := ((if (3 : Int32) ≤ x1 then 60 else 46), [(0, .ref 77), (1, .int x0), (2, .int x1)], [], st_mm s4)) rfl (bi_Tif (fun hc => ?_) (fun hc => ?_))
          · have h := h.1 hc
            refine bi_Tr 9 (s' := (72, [(0, .ref 77), (1, .int x0), (2, .int x1)], [.int ((((6 : Int32) * x0) + (1 : Int32)) + x1), .ref 85], st_mm s4)) rfl ?_
            obtain ⟨hi, h⟩ := h
            refine bi_Tial rfl rfl rfl hi ?_
            exact bi_Tv rfl rfl (Or.inl ⟨_, _, rfl, h⟩)
          · have h := h.2 hc
            refine bi_Tr 7 (s' := (56, [(0, .ref 77), (1, .int x0), (2, .int x1)], [.int (((6 : Int32) * x0) + x1), .ref 85], st_mm s4)) rfl ?_
            obtain ⟨hi, h⟩ := h
            refine bi_Tial rfl rfl rfl hi ?_
            refine bi_Tr 1 (s' := (73, [(0, .ref 77), (1, .int x0), (2, .int x1)], [.int (st_g s4 85 ((((6 : Int32) * x0) + x1)).toNatClampNeg)], st_mm s4)) rfl ?_
            exact bi_Tv rfl rfl (Or.inl ⟨_, _, rfl, h⟩)
        · have h := h.2 hc
          refine bi_Tr 1 (s' := (40, [(0, .ref 77), (1, .int x0), (2, .int x1)], [.int (0 : Int32)], st_mm s4)) rfl ?_
          exact bi_Tv rfl rfl (Or.inl ⟨_, _, rfl, h⟩)
    · have h := h.2 hc
      refine bi_Tr 3 (s' := (24, [(0, .ref 77), (1, .int x0), (2, .int x1)], [.int (1 : Int32), .int (1 : Int32), .ref 77], st_mm (st_p s 77 0 (0 : Int32)))) rfl ?_
      refine bi_TcI (as := [.ref 77, .int (1 : Int32), .int (1 : Int32)]) rfl rfl ?_
      refine cI.mono h (fun r5 s5 h => ?_) (fun _ _ h => h.elim)
      refine bi_Tr 1 (s' := ((if r5 = 0 then 39 else 30), [(0, .ref 77), (1, .int x0), (2, .int x1)], [], st_mm s5)) rfl (bi_Tif (fun hc => ?_) (fun hc => ?_))
      · have h := h.1 hc
        refine bi_Tr 1 (s' := (40, [(0, .ref 77), (1, .int x0), (2, .int x1)], [.int (0 : Int32)], st_mm s5)) rfl ?_
        exact bi_Tv rfl rfl (Or.inl ⟨_, _, rfl, h⟩)
      · have h := h.2 hc
        refine bi_Tr 3 (s' := (33, [(0, .ref 77), (1, .int x0), (2, .int x1)], [.int (4 : Int32), .int x1, .ref 77], st_mm s5)) rfl ?_
        refine bi_TcI (as := [.ref 77, .int x1, .int (4 : Int32)]) rfl rfl ?_
        refine cI.mono h (fun r6 s6 h => ?_) (fun _ _ h => h.elim)
        refine bi_Tr 1 (s' := ((if ¬ r6 = 0 then 41 else 39), [(0, .ref 77), (1, .int x0), (2, .int x1)], [], st_mm s6)) rfl (bi_Tif (fun hc => ?_) (fun hc => ?_))
        · have h := h.1 hc
          refine bi_Tr 3 (s' := ((if (3 : Int32) ≤ x1 then 60 else 46), [(0, .ref 77), (1, .int x0), (2, .int x1)], [], st_mm s6)) rfl (bi_Tif (fun hc => ?_) (fun hc => ?_))
          · have h := h.1 hc
            refine bi_Tr 9 (s' := (72, [(0, .ref 77), (1, .int x0), (2, .int x1)], [.int ((((6 : Int32) * x0) + (1 : Int32)) + x1), .ref 85], st_mm s6)) rfl ?_
            obtain ⟨hi, h⟩ := h
            refine bi_Tial rfl rfl rfl hi ?_
            exact bi_Tv rfl rfl (Or.inl ⟨_, _, rfl, h⟩)
          · have h := h.2 hc
            refine bi_Tr 7 (s' := (56, [(0, .ref 77), (1, .int x0), (2, .int x1)], [.int (((6 : Int32) * x0) + x1), .ref 85], st_mm s6)) rfl ?_
            obtain ⟨hi, h⟩ := h
            refine bi_Tial rfl rfl rfl hi ?_
            refine bi_Tr 1 (s' := (73, [(0, .ref 77), (1, .int x0), (2, .int x1)], [.int (st_g s6 85 ((((6 : Int32) * x0) + x1)).toNatClampNeg)], st_mm s6)) rfl ?_
            exact bi_Tv rfl rfl (Or.inl ⟨_, _, rfl, h⟩)
        · have h := h.2 hc
          refine bi_Tr 1 (s' := (40, [(0, .ref 77), (1, .int x0), (2, .int x1)], [.int (0 : Int32)], st_mm s6)) rfl ?_
          exact bi_Tv rfl rfl (Or.inl ⟨_, _, rfl, h⟩)
/-- PolicyRowsModel.laysStep(IIIIII)V -/
theorem en_X12_laysStep {X : bi_X} {d : Nat} {K : bi_St → Prop} {E : Nat → bi_St → Prop} {s : bi_St} {x0 : Int32} {x1 : Int32} {x2 : Int32} {x3 : Int32} {x4 : Int32} {x5 : Int32}  (h : bi_in ((6 : Int32) * (st_g s 77 49)) 54 = true ∧ (bi_in (((6 : Int32) * (st_g s 77 49)) + (1 : Int32)) 54 = true ∧ (bi_in (((6 : Int32) * (st_g s 77 49)) + (2 : Int32)) 54 = true ∧ (bi_in (((6 : Int32) * (st_g s 77 49)) + (3 : Int32)) 54 = true ∧ (bi_in (((6 : Int32) * (st_g s 77 49)) + (4 : Int32)) 54 = true ∧ (bi_in (((6 : Int32) * (st_g s 77 49)) + (5 : Int32)) 54 = true ∧ (K (st_p (st_p (st_p (st_p (st_p (st_p (st_p s 94 (((6 : Int32) * (st_g s 77 49))).toNatClampNeg x0) 94 ((((6 : Int32) * (st_g s 77 49)) + (1 : Int32))).toNatClampNeg x1) 94 ((((6 : Int32) * (st_g s 77 49)) + (2 : Int32))).toNatClampNeg x2) 94 ((((6 : Int32) * (st_g s 77 49)) + (3 : Int32))).toNatClampNeg x3) 94 ((((6 : Int32) * (st_g s 77 49)) + (4 : Int32))).toNatClampNeg x4) 94 ((((6 : Int32) * (st_g s 77 49)) + (5 : Int32))).toNatClampNeg x5) 77 49 ((st_g (st_p (st_p (st_p (st_p (st_p (st_p s 94 (((6 : Int32) * (st_g s 77 49))).toNatClampNeg x0) 94 ((((6 : Int32) * (st_g s 77 49)) + (1 : Int32))).toNatClampNeg x1) 94 ((((6 : Int32) * (st_g s 77 49)) + (2 : Int32))).toNatClampNeg x2) 94 ((((6 : Int32) * (st_g s 77 49)) + (3 : Int32))).toNatClampNeg x3) 94 ((((6 : Int32) * (st_g s 77 49)) + (4 : Int32))).toNatClampNeg x4) 94 ((((6 : Int32) * (st_g s 77 49)) + (5 : Int32))).toNatClampNeg x5) 77 49) + (1 : Int32)))))))))) : cV X d 230 [.ref 77, .int x0, .int x1, .int x2, .int x3, .int x4, .int x5] s K E := by
  show bi_T _ _ _ _ _
  refine bi_Tr 9 (s' := (16, [(7, .int ((6 : Int32) * (st_g s 77 49))), (0, .ref 77), (1, .int x0), (2, .int x1), (3, .int x2), (4, .int x3), (5, .int x4), (6, .int x5)], [.int x0, .int ((6 : Int32) * (st_g s 77 49)), .ref 94], st_mm s)) rfl ?_
  obtain ⟨hi, h⟩ := h
  refine bi_Tias rfl rfl hi ?_
  refine bi_Tr 6 (s' := (26, [(7, .int ((6 : Int32) * (st_g s 77 49))), (0, .ref 77), (1, .int x0), (2, .int x1), (3, .int x2), (4, .int x3), (5, .int x4), (6, .int x5)], [.int x1, .int (((6 : Int32) * (st_g s 77 49)) + (1 : Int32)), .ref 94], st_mm (st_p s 94 (((6 : Int32) * (st_g s 77 49))).toNatClampNeg x0))) rfl ?_
  obtain ⟨hi, h⟩ := h
  refine bi_Tias rfl rfl hi ?_
  refine bi_Tr 6 (s' := (36, [(7, .int ((6 : Int32) * (st_g s 77 49))), (0, .ref 77), (1, .int x0), (2, .int x1), (3, .int x2), (4, .int x3), (5, .int x4), (6, .int x5)], [.int x2, .int (((6 : Int32) * (st_g s 77 49)) + (2 : Int32)), .ref 94], st_mm (st_p (st_p s 94 (((6 : Int32) * (st_g s 77 49))).toNatClampNeg x0) 94 ((((6 : Int32) * (st_g s 77 49)) + (1 : Int32))).toNatClampNeg x1))) rfl ?_
  obtain ⟨hi, h⟩ := h
  refine bi_Tias rfl rfl hi ?_
  refine bi_Tr 6 (s' := (47, [(7, .int ((6 : Int32) * (st_g s 77 49))), (0, .ref 77), (1, .int x0), (2, .int x1), (3, .int x2), (4, .int x3), (5, .int x4), (6, .int x5)], [.int x3, .int (((6 : Int32) * (st_g s 77 49)) + (3 : Int32)), .ref 94], st_mm (st_p (st_p (st_p s 94 (((6 : Int32) * (st_g s 77 49))).toNatClampNeg x0) 94 ((((6 : Int32) * (st_g s 77 49)) + (1 : Int32))).toNatClampNeg x1) 94 ((((6 : Int32) * (st_g s 77 49)) + (2 : Int32))).toNatClampNeg x2))) rfl ?_
  obtain ⟨hi, h⟩ := h
  refine bi_Tias rfl rfl hi ?_
  refine bi_Tr 6 (s' := (58, [(7, .int ((6 : Int32) * (st_g s 77 49))), (0, .ref 77), (1, .int x0), (2, .int x1), (3, .int x2), (4, .int x3), (5, .int x4), (6, .int x5)], [.int x4, .int (((6 : Int32) * (st_g s 77 49)) + (4 : Int32)), .ref 94], st_mm (st_p (st_p (st_p (st_p s 94 (((6 : Int32) * (st_g s 77 49))).toNatClampNeg x0) 94 ((((6 : Int32) * (st_g s 77 49)) + (1 : Int32))).toNatClampNeg x1) 94 ((((6 : Int32) * (st_g s 77 49)) + (2 : Int32))).toNatClampNeg x2) 94 ((((6 : Int32) * (st_g s 77 49)) + (3 : Int32))).toNatClampNeg x3))) rfl ?_
  obtain ⟨hi, h⟩ := h
  refine bi_Tias rfl rfl hi ?_
  refine bi_Tr 6 (s' := (69, [(7, .int ((6 : Int32) * (st_g s 77 49))), (0, .ref 77), (1, .int x0), (2, .int x1), (3, .int x2), (4, .int x3), (5, .int x4), (6, .int x5)], [.int x5, .int (((6 : Int32) * (st_g s 77 49)) + (5 : Int32)), .ref 94], st_mm (st_p (st_p (st_p (st_p (st_p s 94 (((6 : Int32) * (st_g s 77 49))).toNatClampNeg x0) 94 ((((6 : Int32) * (st_g s 77 49)) + (1 : Int32))).toNatClampNeg x1) 94 ((((6 : Int32) * (st_g s 77 49)) + (2 : Int32))).toNatClampNeg x2) 94 ((((6 : Int32) * (st_g s 77 49)) + (3 : Int32))).toNatClampNeg x3) 94 ((((6 : Int32) * (st_g s 77 49)) + (4 : Int32))).toNatClampNeg x4))) rfl ?_
  obtain ⟨hi, h⟩ := h
  refine bi_Tias rfl rfl hi ?_
  refine bi_Tr 6 (s' := (80, [(7, .int ((6 : Int32) * (st_g s 77 49))), (0, .ref 77), (1, .int x0), (2, .int x1), (3, .int x2), (4, .int x3), (5, .int x4), (6, .int x5)], [], st_mm (st_p (st_p (st_p (st_p (st_p (st_p (st_p s 94 (((6 : Int32) * (st_g s 77 49))).toNatClampNeg x0) 94 ((((6 : Int32) * (st_g s 77 49)) + (1 : Int32))).toNatClampNeg x1) 94 ((((6 : Int32) * (st_g s 77 49)) + (2 : Int32))).toNatClampNeg x2) 94 ((((6 : Int32) * (st_g s 77 49)) + (3 : Int32))).toNatClampNeg x3) 94 ((((6 : Int32) * (st_g s 77 49)) + (4 : Int32))).toNatClampNeg x4) 94 ((((6 : Int32) * (st_g s 77 49)) + (5 : Int32))).toNatClampNeg x5) 77 49 ((st_g (st_p (st_p (st_p (st_p (st_p (st_p s 94 (((6 : Int32) * (st_g s 77 49))).toNatClampNeg x0) 94 ((((6 : Int32) * (st_g s 77 49)) + (1 : Int32))).toNatClampNeg x1) 94 ((((6 : Int32) * (st_g s 77 49)) + (2 : Int32))).toNatClampNeg x2) 94 ((((6 : Int32) * (st_g s 77 49)) + (3 : Int32))).toNatClampNeg x3) 94 ((((6 : Int32) * (st_g s 77 49)) + (4 : Int32))).toNatClampNeg x4) 94 ((((6 : Int32) * (st_g s 77 49)) + (5 : Int32))).toNatClampNeg x5) 77 49) + (1 : Int32))))) rfl ?_
  exact bi_Tv rfl rfl (Or.inl ⟨_, rfl, h⟩)
def at_X12_policyCost_10 (X : bi_X) (d : Nat) (K : Int32 → bi_St → Prop) (E : Nat → bi_St → Prop) (s : bi_St) (y2 : Int32) (y3 : Int32) : Prop := bi_T X d 231 (10, [(0, .ref 77), (2, .int y2), (3, .int y3)], [], st_mm s) (st_RI K E)
theorem go_X12_policyCost_10 {X : bi_X} {d : Nat} {K : Int32 → bi_St → Prop} {E : Nat → bi_St → Prop}  {s : bi_St} {y2 : Int32} {y3 : Int32}  (h : (((st_g s 77 29) ≤ y3) → K y2 s) ∧ (¬ ((st_g s 77 29) ≤ y3) → cI X d 213 [.ref 77, .int (0 : Int32), .int y3, .int (0 : Int32)] s (fun (r2 : Int32) (s2 : bi_St) => ((r2 = 0) → at_X12_policyCost_10 X (d + 1) K E s2 ((y2 + (0 : Int32))) ((y3 + (1 : Int32)))) ∧ (¬ (r2 = 0) → bi_in (((7 : Int32) * y3) + (5 : Int32)) 56 = true ∧ ((((st_g s2 83 ((((7 : Int32) * y3) + (5 : Int32))).toNatClampNeg) = (-1 : Int32)) → at_X12_policyCost_10 X (d + 1) K E s2 ((y2 + (0 : Int32))) ((y3 + (1 : Int32)))) ∧ (¬ ((st_g s2 83 ((((7 : Int32) * y3) + (5 : Int32))).toNatClampNeg) = (-1 : Int32)) → bi_in (((7 : Int32) * y3) + (5 : Int32)) 56 = true ∧ (at_X12_policyCost_10 X (d + 1) K E s2 ((y2 + (st_g s2 83 ((((7 : Int32) * y3) + (5 : Int32))).toNatClampNeg))) ((y3 + (1 : Int32)))))))) (fun _ _ => False))) : at_X12_policyCost_10 X (d + 1) K E s y2 y3 := by
  show bi_T _ _ _ _ _
  refine bi_Tr 4 (s' := ((if (st_g s 77 29) ≤ y3 then 67 else 18), [(0, .ref 77), (2, .int y2), (3, .int y3)], [], st_mm s)) rfl (bi_Tif (fun hc => ?_) (fun hc => ?_))
  · have h := h.1 hc
    refine bi_Tr 1 (s' := (68, [(0, .ref 77), (2, .int y2), (3, .int y3)], [.int y2], st_mm s)) rfl ?_
    exact bi_Tv rfl rfl (Or.inl ⟨_, _, rfl, h⟩)
  · have h := h.2 hc
    refine bi_Tr 5 (s' := (23, [(0, .ref 77), (2, .int y2), (3, .int y3)], [.int (0 : Int32), .int y3, .int (0 : Int32), .ref 77, .int y2], st_mm s)) rfl ?_
    refine bi_TcI (as := [.ref 77, .int (0 : Int32), .int y3, .int (0 : Int32)]) rfl rfl ?_
    refine cI.mono h (fun r2 s2 h => ?_) (fun _ _ h => h.elim)
    refine bi_Tr 1 (s' := ((if r2 = 0 then 58 else 29), [(0, .ref 77), (2, .int y2), (3, .int y3)], [.int y2], st_mm s2)) rfl (bi_Tif (fun hc => ?_) (fun hc => ?_))
    · have h := h.1 hc
      refine bi_Tr 5 (s' := (10, [(3, .int (y3 + (1 : Int32))), (2, .int (y2 + (0 : Int32))), (0, .ref 77)], [], st_mm s2)) rfl ?_
      exact bi_Tww h rfl rfl ⟨rfl, rfl, rfl, trivial⟩
    · have h := h.2 hc
      refine bi_Tr 7 (s' := (39, [(0, .ref 77), (2, .int y2), (3, .int y3)], [.int (((7 : Int32) * y3) + (5 : Int32)), .ref 83, .int y2], st_mm s2)) rfl ?_
      obtain ⟨hi, h⟩ := h
      refine bi_Tial rfl rfl rfl hi ?_
      refine bi_Tr 2 (s' := ((if (st_g s2 83 ((((7 : Int32) * y3) + (5 : Int32))).toNatClampNeg) = (-1 : Int32) then 58 else 44), [(0, .ref 77), (2, .int y2), (3, .int y3)], [.int y2], st_mm s2)) rfl (bi_Tif (fun hc => ?_) (fun hc => ?_))
      · have h := h.1 hc
        refine bi_Tr 5 (s' := (10, [(3, .int (y3 + (1 : Int32))), (2, .int (y2 + (0 : Int32))), (0, .ref 77)], [], st_mm s2)) rfl ?_
        exact bi_Tww h rfl rfl ⟨rfl, rfl, rfl, trivial⟩
      · have h := h.2 hc
        refine bi_Tr 7 (s' := (54, [(0, .ref 77), (2, .int y2), (3, .int y3)], [.int (((7 : Int32) * y3) + (5 : Int32)), .ref 83, .int y2], st_mm s2)) rfl ?_
        obtain ⟨hi, h⟩ := h
        refine bi_Tial rfl rfl rfl hi ?_
        refine bi_Tr 5 (s' := (10, [(3, .int (y3 + (1 : Int32))), (2, .int (y2 + (st_g s2 83 ((((7 : Int32) * y3) + (5 : Int32))).toNatClampNeg))), (0, .ref 77)], [], st_mm s2)) rfl ?_
        exact bi_Tww h rfl rfl ⟨rfl, rfl, rfl, trivial⟩
/-- PolicyRowsModel.policyCost(I)I -/
theorem en_X12_policyCost {X : bi_X} {d : Nat} {K : Int32 → bi_St → Prop} {E : Nat → bi_St → Prop} {s : bi_St} {x0 : Int32}  (h : cV X d 211 [.ref 77, .int (0 : Int32), .int x0] s (fun (s1 : bi_St) => at_X12_policyCost_10 X (d + 1) K E s1 ((1 : Int32)) ((0 : Int32))) (fun _ _ => False)) : cI X (d + 1) 231 [.ref 77, .int x0] s K E := by
  show bi_T _ _ _ _ _
  refine bi_Tr 5 (s' := (5, [(2, .int (1 : Int32)), (0, .ref 77), (1, .int x0)], [.int x0, .int (0 : Int32), .ref 77], st_mm s)) rfl ?_
  refine bi_TcV (as := [.ref 77, .int (0 : Int32), .int x0]) rfl rfl ?_
  refine cV.mono h (fun s1 h => ?_) (fun _ _ h => h.elim)
  refine bi_Tr 2 (s' := (10, [(3, .int (0 : Int32)), (2, .int (1 : Int32)), (0, .ref 77), (1, .int x0)], [], st_mm s1)) rfl ?_
  exact bi_Tww h rfl rfl ⟨rfl, rfl, rfl, trivial⟩
def at_X12_laysSteps_9 (X : bi_X) (d : Nat) (K : bi_St → Prop) (E : Nat → bi_St → Prop) (s : bi_St) (y1 : Int32) (y3 : Int32) (y4 : Int32) (y5 : Int32) (y6 : Int32) : Prop := bi_T X d 232 (9, [(0, .ref 77), (1, .int y1), (3, .int y3), (4, .int y4), (5, .int y5), (6, .int y6)], [], st_mm s) (st_RV K E)
def at_X12_laysSteps_115 (X : bi_X) (d : Nat) (K : bi_St → Prop) (E : Nat → bi_St → Prop) (s : bi_St) (y1 : Int32) (y3 : Int32) (y6 : Int32) : Prop := bi_T X d 232 (115, [(0, .ref 77), (1, .int y1), (3, .int y3), (6, .int y6)], [], st_mm s) (st_RV K E)
def at_X12_laysSteps_41 (X : bi_X) (d : Nat) (K : bi_St → Prop) (E : Nat → bi_St → Prop) (s : bi_St) (y1 : Int32) (y3 : Int32) (y4 : Int32) (y5 : Int32) (y6 : Int32) : Prop := bi_T X d 232 (41, [(0, .ref 77), (1, .int y1), (3, .int y3), (4, .int y4), (5, .int y5), (6, .int y6)], [], st_mm s) (st_RV K E)
def at_X12_laysSteps_199 (X : bi_X) (d : Nat) (K : bi_St → Prop) (E : Nat → bi_St → Prop) (s : bi_St) (y1 : Int32) (y3 : Int32) (y6 : Int32) : Prop := bi_T X d 232 (199, [(0, .ref 77), (1, .int y1), (3, .int y3), (6, .int y6)], [], st_mm s) (st_RV K E)
theorem go_X12_laysSteps_9 {X : bi_X} {d : Nat} {K : bi_St → Prop} {E : Nat → bi_St → Prop}  {s : bi_St} {y1 : Int32} {y3 : Int32} {y4 : Int32} {y5 : Int32} {y6 : Int32}  (h : ((y6 = (-1 : Int32)) → cI X d 231 [.ref 77, .int y5] (st_p s 77 49 (0 : Int32)) (fun (r1 : Int32) (s1 : bi_St) => cV X d 230 [.ref 77, .int (0 : Int32), .int (-1 : Int32), .int r1, .int (0 : Int32), .int y5, .int (-1 : Int32)] s1 (fun (s2 : bi_St) => bi_in (7 : Int32) 8 = true ∧ (at_X12_laysSteps_115 X (d + 1) K E (st_p s2 97 ((7 : Int32)).toNatClampNeg y5) (y1) (y3) ((y4 - (1 : Int32))))) (fun _ _ => False)) (fun _ _ => False)) ∧ (¬ (y6 = (-1 : Int32)) → bi_in ((6 : Int32) * y6) 18 = true ∧ ((((st_g s 85 (((6 : Int32) * y6)).toNatClampNeg) = (-1 : Int32)) → at_X12_laysSteps_41 X (d + 1) K E s (y1) (y3) (y4) (y5) (y6)) ∧ (¬ ((st_g s 85 (((6 : Int32) * y6)).toNatClampNeg) = (-1 : Int32)) → bi_in ((6 : Int32) * y6) 18 = true ∧ (at_X12_laysSteps_41 X (d + 1) K E s (y1) (y3) (y4) ((st_g s 85 (((6 : Int32) * y6)).toNatClampNeg)) (y6)))))) : at_X12_laysSteps_9 X (d + 1) K E s y1 y3 y4 y5 y6 := by
  show bi_T _ _ _ _ _
  refine bi_Tr 3 (s' := ((if y6 = (-1 : Int32) then 79 else 15), [(0, .ref 77), (1, .int y1), (3, .int y3), (4, .int y4), (5, .int y5), (6, .int y6)], [], st_mm s)) rfl (bi_Tif (fun hc => ?_) (fun hc => ?_))
  · have h := h.1 hc
    refine bi_Tr 8 (s' := (90, [(0, .ref 77), (1, .int y1), (3, .int y3), (4, .int y4), (5, .int y5), (6, .int y6)], [.int y5, .ref 77, .int (-1 : Int32), .int (0 : Int32), .ref 77], st_mm (st_p s 77 49 (0 : Int32)))) rfl ?_
    refine bi_TcI (as := [.ref 77, .int y5]) rfl rfl ?_
    refine cI.mono h (fun r1 s1 h => ?_) (fun _ _ h => h.elim)
    refine bi_Tr 3 (s' := (97, [(0, .ref 77), (1, .int y1), (3, .int y3), (4, .int y4), (5, .int y5), (6, .int y6)], [.int (-1 : Int32), .int y5, .int (0 : Int32), .int r1, .int (-1 : Int32), .int (0 : Int32), .ref 77], st_mm s1)) rfl ?_
    refine bi_TcV (as := [.ref 77, .int (0 : Int32), .int (-1 : Int32), .int r1, .int (0 : Int32), .int y5, .int (-1 : Int32)]) rfl rfl ?_
    refine cV.mono h (fun s2 h => ?_) (fun _ _ h => h.elim)
    refine bi_Tr 4 (s' := (108, [(0, .ref 77), (1, .int y1), (3, .int y3), (4, .int y4), (5, .int y5), (6, .int y6)], [.int y5, .int (7 : Int32), .ref 97], st_mm s2)) rfl ?_
    obtain ⟨hi, h⟩ := h
    refine bi_Tias rfl rfl hi ?_
    refine bi_Tr 4 (s' := (115, [(6, .int (y4 - (1 : Int32))), (0, .ref 77), (1, .int y1), (3, .int y3), (4, .int y4), (5, .int y5)], [], st_mm (st_p s2 97 ((7 : Int32)).toNatClampNeg y5))) rfl ?_
    exact bi_Tww h rfl rfl ⟨rfl, rfl, rfl, rfl, trivial⟩
  · have h := h.2 hc
    refine bi_Tr 5 (s' := (24, [(0, .ref 77), (1, .int y1), (3, .int y3), (4, .int y4), (5, .int y5), (6, .int y6)], [.int ((6 : Int32) * y6), .ref 85], st_mm s)) rfl ?_
    obtain ⟨hi, h⟩ := h
    refine bi_Tial rfl rfl rfl hi ?_
    refine bi_Tr 2 (s' := ((if (st_g s 85 (((6 : Int32) * y6)).toNatClampNeg) = (-1 : Int32) then 41 else 29), [(0, .ref 77), (1, .int y1), (3, .int y3), (4, .int y4), (5, .int y5), (6, .int y6)], [], st_mm s)) rfl (bi_Tif (fun hc => ?_) (fun hc => ?_))
    · have h := h.1 hc
      exact bi_Tww h rfl rfl ⟨rfl, rfl, rfl, rfl, rfl, rfl, trivial⟩
    · have h := h.2 hc
      refine bi_Tr 5 (s' := (38, [(0, .ref 77), (1, .int y1), (3, .int y3), (4, .int y4), (5, .int y5), (6, .int y6)], [.int ((6 : Int32) * y6), .ref 85], st_mm s)) rfl ?_
      obtain ⟨hi, h⟩ := h
      refine bi_Tial rfl rfl rfl hi ?_
      refine bi_Tr 1 (s' := (41, [(5, .int (st_g s 85 (((6 : Int32) * y6)).toNatClampNeg)), (0, .ref 77), (1, .int y1), (3, .int y3), (4, .int y4), (6, .int y6)], [], st_mm s)) rfl ?_
      exact bi_Tww h rfl rfl ⟨rfl, rfl, rfl, rfl, rfl, rfl, trivial⟩
theorem go_X12_laysSteps_115 {X : bi_X} {d : Nat} {K : bi_St → Prop} {E : Nat → bi_St → Prop}  {s : bi_St} {y1 : Int32} {y3 : Int32} {y6 : Int32}  (h : ((y6 < 0) → at_X12_laysSteps_199 X (d + 1) K E s (y1) (y3) ((0 : Int32))) ∧ (¬ (y6 < 0) → bi_in y6 3 = true ∧ (bi_in y6 3 = true ∧ (bi_in (((6 : Int32) * (st_g s 101 (y6).toNatClampNeg)) + (4 : Int32)) 18 = true ∧ (bi_in y6 3 = true ∧ (bi_in (((6 : Int32) * (st_g s 101 (y6).toNatClampNeg)) + (5 : Int32)) 18 = true ∧ (bi_in y6 3 = true ∧ (bi_in y6 3 = true ∧ (bi_in (((6 : Int32) * (st_g s 101 (y6).toNatClampNeg)) + (3 : Int32)) 18 = true ∧ (cV X d 230 [.ref 77, .int (1 : Int32), .int (st_g s 101 (y6).toNatClampNeg), .int (st_g s 85 ((((6 : Int32) * (st_g s 101 (y6).toNatClampNeg)) + (4 : Int32))).toNatClampNeg), .int (st_g s 85 ((((6 : Int32) * (st_g s 101 (y6).toNatClampNeg)) + (5 : Int32))).toNatClampNeg), .int (st_g s 102 (y6).toNatClampNeg), .int (st_g s 85 ((((6 : Int32) * (st_g s 101 (y6).toNatClampNeg)) + (3 : Int32))).toNatClampNeg)] s (fun (s3 : bi_St) => at_X12_laysSteps_115 X (d + 1) K E s3 (y1) (y3) ((y6 + (-1 : Int32)))) (fun _ _ => False))))))))))) : at_X12_laysSteps_115 X (d + 1) K E s y1 y3 y6 := by
  show bi_T _ _ _ _ _
  refine bi_Tr 2 (s' := ((if y6 < 0 then 196 else 120), [(0, .ref 77), (1, .int y1), (3, .int y3), (6, .int y6)], [], st_mm s)) rfl (bi_Tif (fun hc => ?_) (fun hc => ?_))
  · have h := h.1 hc
    refine bi_Tr 2 (s' := (199, [(6, .int (0 : Int32)), (0, .ref 77), (1, .int y1), (3, .int y3)], [], st_mm s)) rfl ?_
    exact bi_Tww h rfl rfl ⟨rfl, rfl, rfl, rfl, trivial⟩
  · have h := h.2 hc
    refine bi_Tr 5 (s' := (128, [(0, .ref 77), (1, .int y1), (3, .int y3), (6, .int y6)], [.int y6, .ref 101, .int (1 : Int32), .ref 77], st_mm s)) rfl ?_
    obtain ⟨hi, h⟩ := h
    refine bi_Tial rfl rfl rfl hi ?_
    refine bi_Tr 6 (s' := (141, [(0, .ref 77), (1, .int y1), (3, .int y3), (6, .int y6)], [.int y6, .ref 101, .int (6 : Int32), .ref 85, .int (st_g s 101 (y6).toNatClampNeg), .int (1 : Int32), .ref 77], st_mm s)) rfl ?_
    obtain ⟨hi, h⟩ := h
    refine bi_Tial rfl rfl rfl hi ?_
    refine bi_Tr 3 (s' := (145, [(0, .ref 77), (1, .int y1), (3, .int y3), (6, .int y6)], [.int (((6 : Int32) * (st_g s 101 (y6).toNatClampNeg)) + (4 : Int32)), .ref 85, .int (st_g s 101 (y6).toNatClampNeg), .int (1 : Int32), .ref 77], st_mm s)) rfl ?_
    obtain ⟨hi, h⟩ := h
    refine bi_Tial rfl rfl rfl hi ?_
    refine bi_Tr 6 (s' := (158, [(0, .ref 77), (1, .int y1), (3, .int y3), (6, .int y6)], [.int y6, .ref 101, .int (6 : Int32), .ref 85, .int (st_g s 85 ((((6 : Int32) * (st_g s 101 (y6).toNatClampNeg)) + (4 : Int32))).toNatClampNeg), .int (st_g s 101 (y6).toNatClampNeg), .int (1 : Int32), .ref 77], st_mm s)) rfl ?_
    obtain ⟨hi, h⟩ := h
    refine bi_Tial rfl rfl rfl hi ?_
    refine bi_Tr 3 (s' := (162, [(0, .ref 77), (1, .int y1), (3, .int y3), (6, .int y6)], [.int (((6 : Int32) * (st_g s 101 (y6).toNatClampNeg)) + (5 : Int32)), .ref 85, .int (st_g s 85 ((((6 : Int32) * (st_g s 101 (y6).toNatClampNeg)) + (4 : Int32))).toNatClampNeg), .int (st_g s 101 (y6).toNatClampNeg), .int (1 : Int32), .ref 77], st_mm s)) rfl ?_
    obtain ⟨hi, h⟩ := h
    refine bi_Tial rfl rfl rfl hi ?_
    refine bi_Tr 3 (s' := (169, [(0, .ref 77), (1, .int y1), (3, .int y3), (6, .int y6)], [.int y6, .ref 102, .int (st_g s 85 ((((6 : Int32) * (st_g s 101 (y6).toNatClampNeg)) + (5 : Int32))).toNatClampNeg), .int (st_g s 85 ((((6 : Int32) * (st_g s 101 (y6).toNatClampNeg)) + (4 : Int32))).toNatClampNeg), .int (st_g s 101 (y6).toNatClampNeg), .int (1 : Int32), .ref 77], st_mm s)) rfl ?_
    obtain ⟨hi, h⟩ := h
    refine bi_Tial rfl rfl rfl hi ?_
    refine bi_Tr 6 (s' := (182, [(0, .ref 77), (1, .int y1), (3, .int y3), (6, .int y6)], [.int y6, .ref 101, .int (6 : Int32), .ref 85, .int (st_g s 102 (y6).toNatClampNeg), .int (st_g s 85 ((((6 : Int32) * (st_g s 101 (y6).toNatClampNeg)) + (5 : Int32))).toNatClampNeg), .int (st_g s 85 ((((6 : Int32) * (st_g s 101 (y6).toNatClampNeg)) + (4 : Int32))).toNatClampNeg), .int (st_g s 101 (y6).toNatClampNeg), .int (1 : Int32), .ref 77], st_mm s)) rfl ?_
    obtain ⟨hi, h⟩ := h
    refine bi_Tial rfl rfl rfl hi ?_
    refine bi_Tr 3 (s' := (186, [(0, .ref 77), (1, .int y1), (3, .int y3), (6, .int y6)], [.int (((6 : Int32) * (st_g s 101 (y6).toNatClampNeg)) + (3 : Int32)), .ref 85, .int (st_g s 102 (y6).toNatClampNeg), .int (st_g s 85 ((((6 : Int32) * (st_g s 101 (y6).toNatClampNeg)) + (5 : Int32))).toNatClampNeg), .int (st_g s 85 ((((6 : Int32) * (st_g s 101 (y6).toNatClampNeg)) + (4 : Int32))).toNatClampNeg), .int (st_g s 101 (y6).toNatClampNeg), .int (1 : Int32), .ref 77], st_mm s)) rfl ?_
    obtain ⟨hi, h⟩ := h
    refine bi_Tial rfl rfl rfl hi ?_
    refine bi_TcV (as := [.ref 77, .int (1 : Int32), .int (st_g s 101 (y6).toNatClampNeg), .int (st_g s 85 ((((6 : Int32) * (st_g s 101 (y6).toNatClampNeg)) + (4 : Int32))).toNatClampNeg), .int (st_g s 85 ((((6 : Int32) * (st_g s 101 (y6).toNatClampNeg)) + (5 : Int32))).toNatClampNeg), .int (st_g s 102 (y6).toNatClampNeg), .int (st_g s 85 ((((6 : Int32) * (st_g s 101 (y6).toNatClampNeg)) + (3 : Int32))).toNatClampNeg)]) rfl rfl ?_
    refine cV.mono h (fun s3 h => ?_) (fun _ _ h => h.elim)
    refine bi_Tr 2 (s' := (115, [(6, .int (y6 + (-1 : Int32))), (0, .ref 77), (1, .int y1), (3, .int y3)], [], st_mm s3)) rfl ?_
    exact bi_Tww h rfl rfl ⟨rfl, rfl, rfl, rfl, trivial⟩
theorem go_X12_laysSteps_41 {X : bi_X} {d : Nat} {K : bi_St → Prop} {E : Nat → bi_St → Prop}  {s : bi_St} {y1 : Int32} {y3 : Int32} {y4 : Int32} {y5 : Int32} {y6 : Int32}  (h : bi_in y4 3 = true ∧ (bi_in y4 3 = true ∧ (bi_in (((6 : Int32) * y6) + (2 : Int32)) 18 = true ∧ (at_X12_laysSteps_9 X (d + 1) K E (st_p (st_p s 101 (y4).toNatClampNeg y6) 102 (y4).toNatClampNeg y5) (y1) (y3) ((y4 + (1 : Int32))) (y5) ((st_g (st_p (st_p s 101 (y4).toNatClampNeg y6) 102 (y4).toNatClampNeg y5) 85 ((((6 : Int32) * y6) + (2 : Int32))).toNatClampNeg)))))) : at_X12_laysSteps_41 X (d + 1) K E s y1 y3 y4 y5 y6 := by
  show bi_T _ _ _ _ _
  refine bi_Tr 4 (s' := (49, [(0, .ref 77), (1, .int y1), (3, .int y3), (4, .int y4), (5, .int y5), (6, .int y6)], [.int y6, .int y4, .ref 101], st_mm s)) rfl ?_
  obtain ⟨hi, h⟩ := h
  refine bi_Tias rfl rfl hi ?_
  refine bi_Tr 4 (s' := (58, [(0, .ref 77), (1, .int y1), (3, .int y3), (4, .int y4), (5, .int y5), (6, .int y6)], [.int y5, .int y4, .ref 102], st_mm (st_p s 101 (y4).toNatClampNeg y6))) rfl ?_
  obtain ⟨hi, h⟩ := h
  refine bi_Tias rfl rfl hi ?_
  refine bi_Tr 8 (s' := (73, [(4, .int (y4 + (1 : Int32))), (0, .ref 77), (1, .int y1), (3, .int y3), (5, .int y5), (6, .int y6)], [.int (((6 : Int32) * y6) + (2 : Int32)), .ref 85], st_mm (st_p (st_p s 101 (y4).toNatClampNeg y6) 102 (y4).toNatClampNeg y5))) rfl ?_
  obtain ⟨hi, h⟩ := h
  refine bi_Tial rfl rfl rfl hi ?_
  refine bi_Tr 2 (s' := (9, [(6, .int (st_g (st_p (st_p s 101 (y4).toNatClampNeg y6) 102 (y4).toNatClampNeg y5) 85 ((((6 : Int32) * y6) + (2 : Int32))).toNatClampNeg)), (4, .int (y4 + (1 : Int32))), (0, .ref 77), (1, .int y1), (3, .int y3), (5, .int y5)], [], st_mm (st_p (st_p s 101 (y4).toNatClampNeg y6) 102 (y4).toNatClampNeg y5))) rfl ?_
  exact bi_Tww h rfl rfl ⟨rfl, rfl, rfl, rfl, rfl, rfl, trivial⟩
theorem go_X12_laysSteps_199 {X : bi_X} {d : Nat} {K : bi_St → Prop} {E : Nat → bi_St → Prop}  {s : bi_St} {y1 : Int32} {y3 : Int32} {y6 : Int32}  (h : ((y3 ≤ y6) → K s) ∧ (¬ (y3 ≤ y6) → bi_in y6 5 = true ∧ (bi_in y6 5 = true ∧ (bi_in y6 5 = true ∧ (cV X d 230 [.ref 77, .int (2 : Int32), .int y6, .int (st_g s 99 (y6).toNatClampNeg), .int (st_g s 100 (y6).toNatClampNeg), .int y1, .int (st_g s 98 (y6).toNatClampNeg)] s (fun (s4 : bi_St) => at_X12_laysSteps_199 X (d + 1) K E s4 (y1) (y3) ((y6 + (1 : Int32)))) (fun _ _ => False)))))) : at_X12_laysSteps_199 X (d + 1) K E s y1 y3 y6 := by
  show bi_T _ _ _ _ _
  refine bi_Tr 3 (s' := ((if y3 ≤ y6 then 240 else 205), [(0, .ref 77), (1, .int y1), (3, .int y3), (6, .int y6)], [], st_mm s)) rfl (bi_Tif (fun hc => ?_) (fun hc => ?_))
  · have h := h.1 hc
    exact bi_Tv rfl rfl (Or.inl ⟨_, rfl, h⟩)
  · have h := h.2 hc
    refine bi_Tr 6 (s' := (215, [(0, .ref 77), (1, .int y1), (3, .int y3), (6, .int y6)], [.int y6, .ref 99, .int y6, .int (2 : Int32), .ref 77], st_mm s)) rfl ?_
    obtain ⟨hi, h⟩ := h
    refine bi_Tial rfl rfl rfl hi ?_
    refine bi_Tr 3 (s' := (222, [(0, .ref 77), (1, .int y1), (3, .int y3), (6, .int y6)], [.int y6, .ref 100, .int (st_g s 99 (y6).toNatClampNeg), .int y6, .int (2 : Int32), .ref 77], st_mm s)) rfl ?_
    obtain ⟨hi, h⟩ := h
    refine bi_Tial rfl rfl rfl hi ?_
    refine bi_Tr 4 (s' := (230, [(0, .ref 77), (1, .int y1), (3, .int y3), (6, .int y6)], [.int y6, .ref 98, .int y1, .int (st_g s 100 (y6).toNatClampNeg), .int (st_g s 99 (y6).toNatClampNeg), .int y6, .int (2 : Int32), .ref 77], st_mm s)) rfl ?_
    obtain ⟨hi, h⟩ := h
    refine bi_Tial rfl rfl rfl hi ?_
    refine bi_TcV (as := [.ref 77, .int (2 : Int32), .int y6, .int (st_g s 99 (y6).toNatClampNeg), .int (st_g s 100 (y6).toNatClampNeg), .int y1, .int (st_g s 98 (y6).toNatClampNeg)]) rfl rfl ?_
    refine cV.mono h (fun s4 h => ?_) (fun _ _ h => h.elim)
    refine bi_Tr 2 (s' := (199, [(6, .int (y6 + (1 : Int32))), (0, .ref 77), (1, .int y1), (3, .int y3)], [], st_mm s4)) rfl ?_
    exact bi_Tww h rfl rfl ⟨rfl, rfl, rfl, rfl, trivial⟩
/-- PolicyRowsModel.laysSteps(III)V -/
theorem en_X12_laysSteps {X : bi_X} {d : Nat} {K : bi_St → Prop} {E : Nat → bi_St → Prop} {s : bi_St} {x0 : Int32} {x1 : Int32} {x2 : Int32}  (h : at_X12_laysSteps_9 X (d + 1) K E s (x0) (x2) ((0 : Int32)) (x0) (x1)) : cV X (d + 1) 232 [.ref 77, .int x0, .int x1, .int x2] s K E := by
  show bi_T _ _ _ _ _
  refine bi_Tr 6 (s' := (9, [(6, .int x1), (5, .int x0), (4, .int (0 : Int32)), (0, .ref 77), (1, .int x0), (2, .int x1), (3, .int x2)], [], st_mm s)) rfl ?_
  exact bi_Tww h rfl rfl ⟨rfl, rfl, rfl, rfl, rfl, rfl, trivial⟩
def at_X12_mayGoAhead_38 (X : bi_X) (d : Nat) (K : Int32 → bi_St → Prop) (E : Nat → bi_St → Prop) (s : bi_St)  : Prop := bi_T X d 233 (38, [], [], st_mm s) (st_RI K E)
def at_X12_mayGoAhead_90 (X : bi_X) (d : Nat) (K : Int32 → bi_St → Prop) (E : Nat → bi_St → Prop) (s : bi_St) (y3 : Int32) : Prop := bi_T X d 233 (90, [(0, .ref 77), (3, .int y3)], [], st_mm s) (st_RI K E)
def at_X12_mayGoAhead_114 (X : bi_X) (d : Nat) (K : Int32 → bi_St → Prop) (E : Nat → bi_St → Prop) (s : bi_St)  : Prop := bi_T X d 233 (114, [], [], st_mm s) (st_RI K E)
theorem go_X12_mayGoAhead_38 {X : bi_X} {d : Nat} {K : Int32 → bi_St → Prop} {E : Nat → bi_St → Prop}  {s : bi_St}   (h : K (0 : Int32) s) : at_X12_mayGoAhead_38 X d K E s  := by
  show bi_T _ _ _ _ _
  refine bi_Tr 1 (s' := (39, [], [.int (0 : Int32)], st_mm s)) rfl ?_
  exact bi_Tv rfl rfl (Or.inl ⟨_, _, rfl, h⟩)
theorem go_X12_mayGoAhead_90 {X : bi_X} {d : Nat} {K : Int32 → bi_St → Prop} {E : Nat → bi_St → Prop}  {s : bi_St} {y3 : Int32}  (h : bi_in (y3 + (3 : Int32)) 54 = true ∧ (((¬ (st_g s 94 ((y3 + (3 : Int32))).toNatClampNeg) = (1 : Int32)) → at_X12_mayGoAhead_114 X d K E s) ∧ (¬ (¬ (st_g s 94 ((y3 + (3 : Int32))).toNatClampNeg) = (1 : Int32)) → ((¬ (0 : Int32) = 0) → at_X12_mayGoAhead_114 X d K E s) ∧ (¬ (¬ (0 : Int32) = 0) → K (1 : Int32) s)))) : at_X12_mayGoAhead_90 X d K E s y3 := by
  show bi_T _ _ _ _ _
  refine bi_Tr 7 (s' := (100, [(4, .int (0 : Int32)), (0, .ref 77), (3, .int y3)], [.int (y3 + (3 : Int32)), .ref 94], st_mm s)) rfl ?_
  obtain ⟨hi, h⟩ := h
  refine bi_Tial rfl rfl rfl hi ?_
  refine bi_Tr 2 (s' := ((if ¬ (st_g s 94 ((y3 + (3 : Int32))).toNatClampNeg) = (1 : Int32) then 114 else 105), [(4, .int (0 : Int32)), (0, .ref 77), (3, .int y3)], [], st_mm s)) rfl (bi_Tif (fun hc => ?_) (fun hc => ?_))
  · have h := h.1 hc
    exact bi_Tww h rfl rfl trivial
  · have h := h.2 hc
    refine bi_Tr 2 (s' := ((if ¬ (0 : Int32) = 0 then 114 else 110), [(4, .int (0 : Int32)), (0, .ref 77), (3, .int y3)], [], st_mm s)) rfl (bi_Tif (fun hc => ?_) (fun hc => ?_))
    · have h := h.1 hc
      exact bi_Tww h rfl rfl trivial
    · have h := h.2 hc
      refine bi_Tr 2 (s' := (115, [(4, .int (0 : Int32)), (0, .ref 77), (3, .int y3)], [.int (1 : Int32)], st_mm s)) rfl ?_
      exact bi_Tv rfl rfl (Or.inl ⟨_, _, rfl, h⟩)
theorem go_X12_mayGoAhead_114 {X : bi_X} {d : Nat} {K : Int32 → bi_St → Prop} {E : Nat → bi_St → Prop}  {s : bi_St}   (h : K (0 : Int32) s) : at_X12_mayGoAhead_114 X d K E s  := by
  show bi_T _ _ _ _ _
  refine bi_Tr 1 (s' := (115, [], [.int (0 : Int32)], st_mm s)) rfl ?_
  exact bi_Tv rfl rfl (Or.inl ⟨_, _, rfl, h⟩)
/-- PolicyRowsModel.mayGoAhead(I)Z -/
theorem en_X12_mayGoAhead {X : bi_X} {d : Nat} {K : Int32 → bi_St → Prop} {E : Nat → bi_St → Prop} {s : bi_St} {x0 : Int32}  (h : bi_in ((6 : Int32) * x0) 54 = true ∧ ((((st_g s 94 (((6 : Int32) * x0)).toNatClampNeg) = 0) → at_X12_mayGoAhead_38 X d K E s) ∧ (¬ ((st_g s 94 (((6 : Int32) * x0)).toNatClampNeg) = 0) → bi_in (((6 : Int32) * x0) + (2 : Int32)) 54 = true ∧ (bi_in ((((6 : Int32) * x0) - (6 : Int32)) + (2 : Int32)) 54 = true ∧ ((((st_g s 94 ((((6 : Int32) * x0) + (2 : Int32))).toNatClampNeg) < (st_g s 94 (((((6 : Int32) * x0) - (6 : Int32)) + (2 : Int32))).toNatClampNeg)) → bi_in (((6 : Int32) * x0) + (3 : Int32)) 54 = true ∧ (((¬ (st_g s 94 ((((6 : Int32) * x0) + (3 : Int32))).toNatClampNeg) = (1 : Int32)) → bi_in (((6 : Int32) * x0) - (6 : Int32)) 54 = true ∧ (((¬ (st_g s 94 ((((6 : Int32) * x0) - (6 : Int32))).toNatClampNeg) = (1 : Int32)) → at_X12_mayGoAhead_90 X d K E s ((((6 : Int32) * x0) - (6 : Int32)))) ∧ (¬ (¬ (st_g s 94 ((((6 : Int32) * x0) - (6 : Int32))).toNatClampNeg) = (1 : Int32)) → bi_in ((((6 : Int32) * x0) - (6 : Int32)) + (1 : Int32)) 54 = true ∧ (bi_in (((6 : Int32) * (st_g s 94 (((((6 : Int32) * x0) - (6 : Int32)) + (1 : Int32))).toNatClampNeg)) + (1 : Int32)) 18 = true ∧ (((¬ (st_g s 85 ((((6 : Int32) * (st_g s 94 (((((6 : Int32) * x0) - (6 : Int32)) + (1 : Int32))).toNatClampNeg)) + (1 : Int32))).toNatClampNeg) = (1 : Int32)) → at_X12_mayGoAhead_90 X d K E s ((((6 : Int32) * x0) - (6 : Int32)))) ∧ (¬ (¬ (st_g s 85 ((((6 : Int32) * (st_g s 94 (((((6 : Int32) * x0) - (6 : Int32)) + (1 : Int32))).toNatClampNeg)) + (1 : Int32))).toNatClampNeg) = (1 : Int32)) → bi_in ((((6 : Int32) * x0) - (6 : Int32)) + (3 : Int32)) 54 = true ∧ (((¬ (st_g s 94 (((((6 : Int32) * x0) - (6 : Int32)) + (3 : Int32))).toNatClampNeg) = (1 : Int32)) → at_X12_mayGoAhead_114 X d K E s) ∧ (¬ (¬ (st_g s 94 (((((6 : Int32) * x0) - (6 : Int32)) + (3 : Int32))).toNatClampNeg) = (1 : Int32)) → ((¬ (1 : Int32) = 0) → at_X12_mayGoAhead_114 X d K E s) ∧ (¬ (¬ (1 : Int32) = 0) → K (1 : Int32) s))))))))) ∧ (¬ (¬ (st_g s 94 ((((6 : Int32) * x0) + (3 : Int32))).toNatClampNeg) = (1 : Int32)) → K (1 : Int32) s))) ∧ (¬ ((st_g s 94 ((((6 : Int32) * x0) + (2 : Int32))).toNatClampNeg) < (st_g s 94 (((((6 : Int32) * x0) - (6 : Int32)) + (2 : Int32))).toNatClampNeg)) → at_X12_mayGoAhead_38 X d K E s)))))) : cI X d 233 [.ref 77, .int x0] s K E := by
  show bi_T _ _ _ _ _
  refine bi_Tr 11 (s' := (15, [(3, .int (((6 : Int32) * x0) - (6 : Int32))), (2, .int ((6 : Int32) * x0)), (0, .ref 77), (1, .int x0)], [.int ((6 : Int32) * x0), .ref 94], st_mm s)) rfl ?_
  obtain ⟨hi, h⟩ := h
  refine bi_Tial rfl rfl rfl hi ?_
  refine bi_Tr 1 (s' := ((if (st_g s 94 (((6 : Int32) * x0)).toNatClampNeg) = 0 then 38 else 19), [(3, .int (((6 : Int32) * x0) - (6 : Int32))), (2, .int ((6 : Int32) * x0)), (0, .ref 77), (1, .int x0)], [], st_mm s)) rfl (bi_Tif (fun hc => ?_) (fun hc => ?_))
  · have h := h.1 hc
    exact bi_Tww h rfl rfl trivial
  · have h := h.2 hc
    refine bi_Tr 5 (s' := (26, [(3, .int (((6 : Int32) * x0) - (6 : Int32))), (2, .int ((6 : Int32) * x0)), (0, .ref 77), (1, .int x0)], [.int (((6 : Int32) * x0) + (2 : Int32)), .ref 94], st_mm s)) rfl ?_
    obtain ⟨hi, h⟩ := h
    refine bi_Tial rfl rfl rfl hi ?_
    refine bi_Tr 5 (s' := (34, [(3, .int (((6 : Int32) * x0) - (6 : Int32))), (2, .int ((6 : Int32) * x0)), (0, .ref 77), (1, .int x0)], [.int ((((6 : Int32) * x0) - (6 : Int32)) + (2 : Int32)), .ref 94, .int (st_g s 94 ((((6 : Int32) * x0) + (2 : Int32))).toNatClampNeg)], st_mm s)) rfl ?_
    obtain ⟨hi, h⟩ := h
    refine bi_Tial rfl rfl rfl hi ?_
    refine bi_Tr 1 (s' := ((if (st_g s 94 ((((6 : Int32) * x0) + (2 : Int32))).toNatClampNeg) < (st_g s 94 (((((6 : Int32) * x0) - (6 : Int32)) + (2 : Int32))).toNatClampNeg) then 40 else 38), [(3, .int (((6 : Int32) * x0) - (6 : Int32))), (2, .int ((6 : Int32) * x0)), (0, .ref 77), (1, .int x0)], [], st_mm s)) rfl (bi_Tif (fun hc => ?_) (fun hc => ?_))
    · have h := h.1 hc
      refine bi_Tr 5 (s' := (47, [(3, .int (((6 : Int32) * x0) - (6 : Int32))), (2, .int ((6 : Int32) * x0)), (0, .ref 77), (1, .int x0)], [.int (((6 : Int32) * x0) + (3 : Int32)), .ref 94], st_mm s)) rfl ?_
      obtain ⟨hi, h⟩ := h
      refine bi_Tial rfl rfl rfl hi ?_
      refine bi_Tr 2 (s' := ((if ¬ (st_g s 94 ((((6 : Int32) * x0) + (3 : Int32))).toNatClampNeg) = (1 : Int32) then 54 else 52), [(3, .int (((6 : Int32) * x0) - (6 : Int32))), (2, .int ((6 : Int32) * x0)), (0, .ref 77), (1, .int x0)], [], st_mm s)) rfl (bi_Tif (fun hc => ?_) (fun hc => ?_))
      · have h := h.1 hc
        refine bi_Tr 3 (s' := (59, [(3, .int (((6 : Int32) * x0) - (6 : Int32))), (2, .int ((6 : Int32) * x0)), (0, .ref 77), (1, .int x0)], [.int (((6 : Int32) * x0) - (6 : Int32)), .ref 94], st_mm s)) rfl ?_
        obtain ⟨hi, h⟩ := h
        refine bi_Tial rfl rfl rfl hi ?_
        refine bi_Tr 2 (s' := ((if ¬ (st_g s 94 ((((6 : Int32) * x0) - (6 : Int32))).toNatClampNeg) = (1 : Int32) then 90 else 64), [(3, .int (((6 : Int32) * x0) - (6 : Int32))), (2, .int ((6 : Int32) * x0)), (0, .ref 77), (1, .int x0)], [], st_mm s)) rfl (bi_Tif (fun hc => ?_) (fun hc => ?_))
        · have h := h.1 hc
          exact bi_Tww h rfl rfl ⟨rfl, rfl, trivial⟩
        · have h := h.2 hc
          refine bi_Tr 8 (s' := (77, [(3, .int (((6 : Int32) * x0) - (6 : Int32))), (2, .int ((6 : Int32) * x0)), (0, .ref 77), (1, .int x0)], [.int ((((6 : Int32) * x0) - (6 : Int32)) + (1 : Int32)), .ref 94, .int (6 : Int32), .ref 85], st_mm s)) rfl ?_
          obtain ⟨hi, h⟩ := h
          refine bi_Tial rfl rfl rfl hi ?_
          refine bi_Tr 3 (s' := (81, [(3, .int (((6 : Int32) * x0) - (6 : Int32))), (2, .int ((6 : Int32) * x0)), (0, .ref 77), (1, .int x0)], [.int (((6 : Int32) * (st_g s 94 (((((6 : Int32) * x0) - (6 : Int32)) + (1 : Int32))).toNatClampNeg)) + (1 : Int32)), .ref 85], st_mm s)) rfl ?_
          obtain ⟨hi, h⟩ := h
          refine bi_Tial rfl rfl rfl hi ?_
          refine bi_Tr 2 (s' := ((if ¬ (st_g s 85 ((((6 : Int32) * (st_g s 94 (((((6 : Int32) * x0) - (6 : Int32)) + (1 : Int32))).toNatClampNeg)) + (1 : Int32))).toNatClampNeg) = (1 : Int32) then 90 else 86), [(3, .int (((6 : Int32) * x0) - (6 : Int32))), (2, .int ((6 : Int32) * x0)), (0, .ref 77), (1, .int x0)], [], st_mm s)) rfl (bi_Tif (fun hc => ?_) (fun hc => ?_))
          · have h := h.1 hc
            exact bi_Tww h rfl rfl ⟨rfl, rfl, trivial⟩
          · have h := h.2 hc
            refine bi_Tr 8 (s' := (100, [(4, .int (1 : Int32)), (3, .int (((6 : Int32) * x0) - (6 : Int32))), (2, .int ((6 : Int32) * x0)), (0, .ref 77), (1, .int x0)], [.int ((((6 : Int32) * x0) - (6 : Int32)) + (3 : Int32)), .ref 94], st_mm s)) rfl ?_
            obtain ⟨hi, h⟩ := h
            refine bi_Tial rfl rfl rfl hi ?_
            refine bi_Tr 2 (s' := ((if ¬ (st_g s 94 (((((6 : Int32) * x0) - (6 : Int32)) + (3 : Int32))).toNatClampNeg) = (1 : Int32) then 114 else 105), [(4, .int (1 : Int32)), (3, .int (((6 : Int32) * x0) - (6 : Int32))), (2, .int ((6 : Int32) * x0)), (0, .ref 77), (1, .int x0)], [], st_mm s)) rfl (bi_Tif (fun hc => ?_) (fun hc => ?_))
            · have h := h.1 hc
              exact bi_Tww h rfl rfl trivial
            · have h := h.2 hc
              refine bi_Tr 2 (s' := ((if ¬ (1 : Int32) = 0 then 114 else 110), [(4, .int (1 : Int32)), (3, .int (((6 : Int32) * x0) - (6 : Int32))), (2, .int ((6 : Int32) * x0)), (0, .ref 77), (1, .int x0)], [], st_mm s)) rfl (bi_Tif (fun hc => ?_) (fun hc => ?_))
              · have h := h.1 hc
                exact bi_Tww h rfl rfl trivial
              · have h := h.2 hc
                refine bi_Tr 2 (s' := (115, [(4, .int (1 : Int32)), (3, .int (((6 : Int32) * x0) - (6 : Int32))), (2, .int ((6 : Int32) * x0)), (0, .ref 77), (1, .int x0)], [.int (1 : Int32)], st_mm s)) rfl ?_
                exact bi_Tv rfl rfl (Or.inl ⟨_, _, rfl, h⟩)
      · have h := h.2 hc
        refine bi_Tr 1 (s' := (53, [(3, .int (((6 : Int32) * x0) - (6 : Int32))), (2, .int ((6 : Int32) * x0)), (0, .ref 77), (1, .int x0)], [.int (1 : Int32)], st_mm s)) rfl ?_
        exact bi_Tv rfl rfl (Or.inl ⟨_, _, rfl, h⟩)
    · have h := h.2 hc
      exact bi_Tww h rfl rfl trivial
def at_X12_plans_2 (X : bi_X) (d : Nat) (K : bi_St → Prop) (E : Nat → bi_St → Prop) (s : bi_St) (y1 : Int32) : Prop := bi_T X d 234 (2, [(0, .ref 77), (1, .int y1)], [], st_mm s) (st_RV K E)
def at_X12_plans_26 (X : bi_X) (d : Nat) (K : bi_St → Prop) (E : Nat → bi_St → Prop) (s : bi_St) (y1 : Int32) (y2 : Int32) : Prop := bi_T X d 234 (26, [(0, .ref 77), (1, .int y1), (2, .int y2)], [], st_mm s) (st_RV K E)
theorem go_X12_plans_2 {X : bi_X} {d : Nat} {K : bi_St → Prop} {E : Nat → bi_St → Prop}  {s : bi_St} {y1 : Int32}  (h : (((st_g s 77 49) ≤ y1) → K s) ∧ (¬ ((st_g s 77 49) ≤ y1) → cI X d 233 [.ref 77, .int y1] s (fun (r1 : Int32) (s1 : bi_St) => ((¬ r1 = 0) → at_X12_plans_26 X (d + 1) K E s1 (y1) ((0 : Int32))) ∧ (¬ (¬ r1 = 0) → at_X12_plans_2 X (d + 1) K E s1 ((y1 + (1 : Int32))))) (fun _ _ => False))) : at_X12_plans_2 X (d + 1) K E s y1 := by
  show bi_T _ _ _ _ _
  refine bi_Tr 4 (s' := ((if (st_g s 77 49) ≤ y1 then 95 else 10), [(0, .ref 77), (1, .int y1)], [], st_mm s)) rfl (bi_Tif (fun hc => ?_) (fun hc => ?_))
  · have h := h.1 hc
    exact bi_Tv rfl rfl (Or.inl ⟨_, rfl, h⟩)
  · have h := h.2 hc
    refine bi_Tr 2 (s' := (12, [(0, .ref 77), (1, .int y1)], [.int y1, .ref 77], st_mm s)) rfl ?_
    refine bi_TcI (as := [.ref 77, .int y1]) rfl rfl ?_
    refine cI.mono h (fun r1 s1 h => ?_) (fun _ _ h => h.elim)
    refine bi_Tr 1 (s' := ((if ¬ r1 = 0 then 24 else 18), [(0, .ref 77), (1, .int y1)], [], st_mm s1)) rfl (bi_Tif (fun hc => ?_) (fun hc => ?_))
    · have h := h.1 hc
      refine bi_Tr 2 (s' := (26, [(2, .int (0 : Int32)), (0, .ref 77), (1, .int y1)], [], st_mm s1)) rfl ?_
      exact bi_Tww h rfl rfl ⟨rfl, rfl, rfl, trivial⟩
    · have h := h.2 hc
      refine bi_Tr 2 (s' := (2, [(1, .int (y1 + (1 : Int32))), (0, .ref 77)], [], st_mm s1)) rfl ?_
      exact bi_Tww h rfl rfl ⟨rfl, rfl, trivial⟩
theorem go_X12_plans_26 {X : bi_X} {d : Nat} {K : bi_St → Prop} {E : Nat → bi_St → Prop}  {s : bi_St} {y1 : Int32} {y2 : Int32}  (h : (((6 : Int32) ≤ y2) → at_X12_plans_2 X (d + 1) K E s ((1 : Int32))) ∧ (¬ ((6 : Int32) ≤ y2) → bi_in (((6 : Int32) * y1) + y2) 54 = true ∧ (bi_in ((((6 : Int32) * y1) - (6 : Int32)) + y2) 54 = true ∧ (bi_in (((6 : Int32) * y1) + y2) 54 = true ∧ (bi_in ((((6 : Int32) * y1) - (6 : Int32)) + y2) 54 = true ∧ (at_X12_plans_26 X (d + 1) K E (st_p (st_p s 94 ((((6 : Int32) * y1) + y2)).toNatClampNeg (st_g s 94 (((((6 : Int32) * y1) - (6 : Int32)) + y2)).toNatClampNeg)) 94 (((((6 : Int32) * y1) - (6 : Int32)) + y2)).toNatClampNeg (st_g s 94 ((((6 : Int32) * y1) + y2)).toNatClampNeg)) (y1) ((y2 + (1 : Int32))))))))) : at_X12_plans_26 X (d + 1) K E s y1 y2 := by
  show bi_T _ _ _ _ _
  refine bi_Tr 3 (s' := ((if (6 : Int32) ≤ y2 then 90 else 32), [(0, .ref 77), (1, .int y1), (2, .int y2)], [], st_mm s)) rfl (bi_Tif (fun hc => ?_) (fun hc => ?_))
  · have h := h.1 hc
    refine bi_Tr 3 (s' := (2, [(1, .int (1 : Int32)), (0, .ref 77), (2, .int y2)], [], st_mm s)) rfl ?_
    exact bi_Tww h rfl rfl ⟨rfl, rfl, trivial⟩
  · have h := h.2 hc
    refine bi_Tr 7 (s' := (42, [(0, .ref 77), (1, .int y1), (2, .int y2)], [.int (((6 : Int32) * y1) + y2), .ref 94], st_mm s)) rfl ?_
    obtain ⟨hi, h⟩ := h
    refine bi_Tial rfl rfl rfl hi ?_
    refine bi_Tr 17 (s' := (67, [(3, .int (st_g s 94 ((((6 : Int32) * y1) + y2)).toNatClampNeg)), (0, .ref 77), (1, .int y1), (2, .int y2)], [.int ((((6 : Int32) * y1) - (6 : Int32)) + y2), .ref 94, .int (((6 : Int32) * y1) + y2), .ref 94], st_mm s)) rfl ?_
    obtain ⟨hi, h⟩ := h
    refine bi_Tial rfl rfl rfl hi ?_
    obtain ⟨hi, h⟩ := h
    refine bi_Tias rfl rfl hi ?_
    refine bi_Tr 10 (s' := (83, [(3, .int (st_g s 94 ((((6 : Int32) * y1) + y2)).toNatClampNeg)), (0, .ref 77), (1, .int y1), (2, .int y2)], [.int (st_g s 94 ((((6 : Int32) * y1) + y2)).toNatClampNeg), .int ((((6 : Int32) * y1) - (6 : Int32)) + y2), .ref 94], st_mm (st_p s 94 ((((6 : Int32) * y1) + y2)).toNatClampNeg (st_g s 94 (((((6 : Int32) * y1) - (6 : Int32)) + y2)).toNatClampNeg)))) rfl ?_
    obtain ⟨hi, h⟩ := h
    refine bi_Tias rfl rfl hi ?_
    refine bi_Tr 2 (s' := (26, [(2, .int (y2 + (1 : Int32))), (3, .int (st_g s 94 ((((6 : Int32) * y1) + y2)).toNatClampNeg)), (0, .ref 77), (1, .int y1)], [], st_mm (st_p (st_p s 94 ((((6 : Int32) * y1) + y2)).toNatClampNeg (st_g s 94 (((((6 : Int32) * y1) - (6 : Int32)) + y2)).toNatClampNeg)) 94 (((((6 : Int32) * y1) - (6 : Int32)) + y2)).toNatClampNeg (st_g s 94 ((((6 : Int32) * y1) + y2)).toNatClampNeg)))) rfl ?_
    exact bi_Tww h rfl rfl ⟨rfl, rfl, rfl, trivial⟩
/-- PolicyRowsModel.plans()V -/
theorem en_X12_plans {X : bi_X} {d : Nat} {K : bi_St → Prop} {E : Nat → bi_St → Prop} {s : bi_St}   (h : at_X12_plans_2 X (d + 1) K E s ((1 : Int32))) : cV X (d + 1) 234 [.ref 77] s K E := by
  show bi_T _ _ _ _ _
  refine bi_Tr 2 (s' := (2, [(1, .int (1 : Int32)), (0, .ref 77)], [], st_mm s)) rfl ?_
  exact bi_Tww h rfl rfl ⟨rfl, rfl, trivial⟩
/-- PolicyRowsModel.doesPass(II)Z -/
theorem en_X12_doesPass {X : bi_X} {d : Nat} {K : Int32 → bi_St → Prop} {E : Nat → bi_St → Prop} {s : bi_St} {x0 : Int32} {x1 : Int32}  (h : bi_in (((6 : Int32) * x0) + (4 : Int32)) 54 = true ∧ (bi_in ((6 : Int32) * x0) 54 = true ∧ (((¬ (st_g s 94 (((6 : Int32) * x0)).toNatClampNeg) = 0) → cV X d 211 [.ref 77, .int (0 : Int32), .int (st_g s 94 ((((6 : Int32) * x0) + (4 : Int32))).toNatClampNeg)] s (fun (s1 : bi_St) => cV X d 212 [.ref 77, .int (0 : Int32), .int x1] s1 (fun (s2 : bi_St) => bi_in ((6 : Int32) * x0) 54 = true ∧ (((¬ (st_g (st_p s2 77 47 (1 : Int32)) 94 (((6 : Int32) * x0)).toNatClampNeg) = (1 : Int32)) → bi_in (((6 : Int32) * x0) + (5 : Int32)) 54 = true ∧ (cI X d 210 [.ref 77, .ref 88, .int (st_g (st_p s2 77 47 (1 : Int32)) 94 ((((6 : Int32) * x0) + (5 : Int32))).toNatClampNeg)] (st_p s2 77 47 (1 : Int32)) (fun (r3 : Int32) (s3 : bi_St) => bi_bool r3 = true ∧ (K r3 s3)) (fun _ _ => False))) ∧ (¬ (¬ (st_g (st_p s2 77 47 (1 : Int32)) 94 (((6 : Int32) * x0)).toNatClampNeg) = (1 : Int32)) → bi_in (((6 : Int32) * x0) + (5 : Int32)) 54 = true ∧ (cI X d 210 [.ref 77, .ref 87, .int (st_g (st_p s2 77 47 (1 : Int32)) 94 ((((6 : Int32) * x0) + (5 : Int32))).toNatClampNeg)] (st_p s2 77 47 (1 : Int32)) (fun (r4 : Int32) (s4 : bi_St) => bi_bool r4 = true ∧ (K r4 s4)) (fun _ _ => False))))) (fun _ _ => False)) (fun _ _ => False)) ∧ (¬ (¬ (st_g s 94 (((6 : Int32) * x0)).toNatClampNeg) = 0) → cI X d 216 [.ref 77, .int (0 : Int32), .int (st_g s 94 ((((6 : Int32) * x0) + (4 : Int32))).toNatClampNeg), .int x1] s (fun (r5 : Int32) (s5 : bi_St) => bi_bool r5 = true ∧ (K r5 (st_p s5 77 46 (0 : Int32)))) (fun _ _ => False))))) : cI X (d + 1) 235 [.ref 77, .int x0, .int x1] s K E := by
  show bi_T _ _ _ _ _
  refine bi_Tr 7 (s' := (10, [(0, .ref 77), (1, .int x0), (2, .int x1)], [.int (((6 : Int32) * x0) + (4 : Int32)), .ref 94], st_mm s)) rfl ?_
  obtain ⟨hi, h⟩ := h
  refine bi_Tial rfl rfl rfl hi ?_
  refine bi_Tr 6 (s' := (20, [(3, .int (st_g s 94 ((((6 : Int32) * x0) + (4 : Int32))).toNatClampNeg)), (0, .ref 77), (1, .int x0), (2, .int x1)], [.int ((6 : Int32) * x0), .ref 94], st_mm s)) rfl ?_
  obtain ⟨hi, h⟩ := h
  refine bi_Tial rfl rfl rfl hi ?_
  refine bi_Tr 1 (s' := ((if ¬ (st_g s 94 (((6 : Int32) * x0)).toNatClampNeg) = 0 then 41 else 24), [(3, .int (st_g s 94 ((((6 : Int32) * x0) + (4 : Int32))).toNatClampNeg)), (0, .ref 77), (1, .int x0), (2, .int x1)], [], st_mm s)) rfl (bi_Tif (fun hc => ?_) (fun hc => ?_))
  · have h := h.1 hc
    refine bi_Tr 3 (s' := (44, [(3, .int (st_g s 94 ((((6 : Int32) * x0) + (4 : Int32))).toNatClampNeg)), (0, .ref 77), (1, .int x0), (2, .int x1)], [.int (st_g s 94 ((((6 : Int32) * x0) + (4 : Int32))).toNatClampNeg), .int (0 : Int32), .ref 77], st_mm s)) rfl ?_
    refine bi_TcV (as := [.ref 77, .int (0 : Int32), .int (st_g s 94 ((((6 : Int32) * x0) + (4 : Int32))).toNatClampNeg)]) rfl rfl ?_
    refine cV.mono h (fun s1 h => ?_) (fun _ _ h => h.elim)
    refine bi_Tr 3 (s' := (50, [(3, .int (st_g s 94 ((((6 : Int32) * x0) + (4 : Int32))).toNatClampNeg)), (0, .ref 77), (1, .int x0), (2, .int x1)], [.int x1, .int (0 : Int32), .ref 77], st_mm s1)) rfl ?_
    refine bi_TcV (as := [.ref 77, .int (0 : Int32), .int x1]) rfl rfl ?_
    refine cV.mono h (fun s2 h => ?_) (fun _ _ h => h.elim)
    refine bi_Tr 2 (s' := (55, [(3, .int (st_g s 94 ((((6 : Int32) * x0) + (4 : Int32))).toNatClampNeg)), (0, .ref 77), (1, .int x0), (2, .int x1)], [.int (1 : Int32), .ref 77], st_mm s2)) rfl ?_
    refine bi_Tpz rfl rfl rfl rfl rfl rfl ?_
    refine bi_Tr 6 (s' := (67, [(3, .int (st_g s 94 ((((6 : Int32) * x0) + (4 : Int32))).toNatClampNeg)), (0, .ref 77), (1, .int x0), (2, .int x1)], [.int ((6 : Int32) * x0), .ref 94, .ref 77], st_mm (st_p s2 77 47 (1 : Int32)))) rfl ?_
    obtain ⟨hi, h⟩ := h
    refine bi_Tial rfl rfl rfl hi ?_
    refine bi_Tr 2 (s' := ((if ¬ (st_g (st_p s2 77 47 (1 : Int32)) 94 (((6 : Int32) * x0)).toNatClampNeg) = (1 : Int32) then 79 else 72), [(3, .int (st_g s 94 ((((6 : Int32) * x0) + (4 : Int32))).toNatClampNeg)), (0, .ref 77), (1, .int x0), (2, .int x1)], [.ref 77], st_mm (st_p s2 77 47 (1 : Int32)))) rfl (bi_Tif (fun hc => ?_) (fun hc => ?_))
    · have h := h.1 hc
      refine bi_Tr 9 (s' := (93, [(3, .int (st_g s 94 ((((6 : Int32) * x0) + (4 : Int32))).toNatClampNeg)), (0, .ref 77), (1, .int x0), (2, .int x1)], [.int (((6 : Int32) * x0) + (5 : Int32)), .ref 94, .ref 88, .ref 77], st_mm (st_p s2 77 47 (1 : Int32)))) rfl ?_
      obtain ⟨hi, h⟩ := h
      refine bi_Tial rfl rfl rfl hi ?_
      refine bi_TcI (as := [.ref 77, .ref 88, .int (st_g (st_p s2 77 47 (1 : Int32)) 94 ((((6 : Int32) * x0) + (5 : Int32))).toNatClampNeg)]) rfl rfl ?_
      refine cI.mono h (fun r3 s3 h => ?_) (fun _ _ h => h.elim)
      obtain ⟨hi, h⟩ := h
      exact bi_Tv rfl hi (Or.inl ⟨_, _, rfl, h⟩)
    · have h := h.2 hc
      refine bi_Tr 10 (s' := (93, [(3, .int (st_g s 94 ((((6 : Int32) * x0) + (4 : Int32))).toNatClampNeg)), (0, .ref 77), (1, .int x0), (2, .int x1)], [.int (((6 : Int32) * x0) + (5 : Int32)), .ref 94, .ref 87, .ref 77], st_mm (st_p s2 77 47 (1 : Int32)))) rfl ?_
      obtain ⟨hi, h⟩ := h
      refine bi_Tial rfl rfl rfl hi ?_
      refine bi_TcI (as := [.ref 77, .ref 87, .int (st_g (st_p s2 77 47 (1 : Int32)) 94 ((((6 : Int32) * x0) + (5 : Int32))).toNatClampNeg)]) rfl rfl ?_
      refine cI.mono h (fun r4 s4 h => ?_) (fun _ _ h => h.elim)
      obtain ⟨hi, h⟩ := h
      exact bi_Tv rfl hi (Or.inl ⟨_, _, rfl, h⟩)
  · have h := h.2 hc
    refine bi_Tr 4 (s' := (28, [(3, .int (st_g s 94 ((((6 : Int32) * x0) + (4 : Int32))).toNatClampNeg)), (0, .ref 77), (1, .int x0), (2, .int x1)], [.int x1, .int (st_g s 94 ((((6 : Int32) * x0) + (4 : Int32))).toNatClampNeg), .int (0 : Int32), .ref 77], st_mm s)) rfl ?_
    refine bi_TcI (as := [.ref 77, .int (0 : Int32), .int (st_g s 94 ((((6 : Int32) * x0) + (4 : Int32))).toNatClampNeg), .int x1]) rfl rfl ?_
    refine cI.mono h (fun r5 s5 h => ?_) (fun _ _ h => h.elim)
    refine bi_Tr 3 (s' := (35, [(4, .int r5), (3, .int (st_g s 94 ((((6 : Int32) * x0) + (4 : Int32))).toNatClampNeg)), (0, .ref 77), (1, .int x0), (2, .int x1)], [.int (0 : Int32), .ref 77], st_mm s5)) rfl ?_
    refine bi_Tpz rfl rfl rfl rfl rfl rfl ?_
    refine bi_Tr 1 (s' := (40, [(4, .int r5), (3, .int (st_g s 94 ((((6 : Int32) * x0) + (4 : Int32))).toNatClampNeg)), (0, .ref 77), (1, .int x0), (2, .int x1)], [.int r5], st_mm (st_p s5 77 46 (0 : Int32)))) rfl ?_
    obtain ⟨hi, h⟩ := h
    exact bi_Tv rfl hi (Or.inl ⟨_, _, rfl, h⟩)
def at_X12_runs_28 (X : bi_X) (d : Nat) (K : bi_St → Prop) (E : Nat → bi_St → Prop) (s : bi_St) (y1 : Int32) (y2 : Int32) : Prop := bi_T X d 236 (28, [(0, .ref 77), (1, .int y1), (2, .int y2)], [], st_mm s) (st_RV K E)
def at_X12_runs_56 (X : bi_X) (d : Nat) (K : bi_St → Prop) (E : Nat → bi_St → Prop) (s : bi_St) (y1 : Int32) (y2 : Int32) : Prop := bi_T X d 236 (56, [(0, .ref 77), (1, .int y1), (2, .int y2)], [], st_mm s) (st_RV K E)
def at_X12_runs_202 (X : bi_X) (d : Nat) (K : bi_St → Prop) (E : Nat → bi_St → Prop) (s : bi_St) (y1 : Int32) : Prop := bi_T X d 236 (202, [(0, .ref 77), (1, .int y1)], [], st_mm s) (st_RV K E)
def at_X12_runs_97 (X : bi_X) (d : Nat) (K : bi_St → Prop) (E : Nat → bi_St → Prop) (s : bi_St) (y1 : Int32) (y2 : Int32) (y3 : Int32) (y4 : Int32) (y5 : Int32) : Prop := bi_T X d 236 (97, [(0, .ref 77), (1, .int y1), (2, .int y2), (3, .int y3), (4, .int y4), (5, .int y5)], [], st_mm s) (st_RV K E)
def at_X12_runs_181 (X : bi_X) (d : Nat) (K : bi_St → Prop) (E : Nat → bi_St → Prop) (s : bi_St) (y1 : Int32) (y2 : Int32) (y4 : Int32) : Prop := bi_T X d 236 (181, [(0, .ref 77), (1, .int y1), (2, .int y2), (4, .int y4)], [], st_mm s) (st_RV K E)
def at_X12_runs_175 (X : bi_X) (d : Nat) (K : bi_St → Prop) (E : Nat → bi_St → Prop) (s : bi_St) (y1 : Int32) (y2 : Int32) (y3 : Int32) (y4 : Int32) (y5 : Int32) : Prop := bi_T X d 236 (175, [(0, .ref 77), (1, .int y1), (2, .int y2), (3, .int y3), (4, .int y4), (5, .int y5)], [], st_mm s) (st_RV K E)
theorem go_X12_runs_28 {X : bi_X} {d : Nat} {K : bi_St → Prop} {E : Nat → bi_St → Prop}  {s : bi_St} {y1 : Int32} {y2 : Int32}  (h : (((9 : Int32) ≤ y2) → at_X12_runs_56 X (d + 1) K E s (y1) ((0 : Int32))) ∧ (¬ ((9 : Int32) ≤ y2) → bi_in y2 9 = true ∧ (bi_in y2 9 = true ∧ (at_X12_runs_28 X (d + 1) K E (st_p (st_p s 95 (y2).toNatClampNeg (0 : Int32)) 96 (y2).toNatClampNeg (0 : Int32)) (y1) ((y2 + (1 : Int32))))))) : at_X12_runs_28 X (d + 1) K E s y1 y2 := by
  show bi_T _ _ _ _ _
  refine bi_Tr 3 (s' := ((if (9 : Int32) ≤ y2 then 54 else 34), [(0, .ref 77), (1, .int y1), (2, .int y2)], [], st_mm s)) rfl (bi_Tif (fun hc => ?_) (fun hc => ?_))
  · have h := h.1 hc
    refine bi_Tr 2 (s' := (56, [(2, .int (0 : Int32)), (0, .ref 77), (1, .int y1)], [], st_mm s)) rfl ?_
    exact bi_Tww h rfl rfl ⟨rfl, rfl, rfl, trivial⟩
  · have h := h.2 hc
    refine bi_Tr 4 (s' := (40, [(0, .ref 77), (1, .int y1), (2, .int y2)], [.int (0 : Int32), .int y2, .ref 95], st_mm s)) rfl ?_
    obtain ⟨hi, h⟩ := h
    refine bi_Tias rfl rfl hi ?_
    refine bi_Tr 4 (s' := (47, [(0, .ref 77), (1, .int y1), (2, .int y2)], [.int (0 : Int32), .int y2, .ref 96], st_mm (st_p s 95 (y2).toNatClampNeg (0 : Int32)))) rfl ?_
    obtain ⟨hi, h⟩ := h
    refine bi_Tias rfl rfl hi ?_
    refine bi_Tr 2 (s' := (28, [(2, .int (y2 + (1 : Int32))), (0, .ref 77), (1, .int y1)], [], st_mm (st_p (st_p s 95 (y2).toNatClampNeg (0 : Int32)) 96 (y2).toNatClampNeg (0 : Int32)))) rfl ?_
    exact bi_Tww h rfl rfl ⟨rfl, rfl, rfl, trivial⟩
theorem go_X12_runs_56 {X : bi_X} {d : Nat} {K : bi_St → Prop} {E : Nat → bi_St → Prop}  {s : bi_St} {y1 : Int32} {y2 : Int32}  (h : bi_in (7 : Int32) 144 = true ∧ ((((st_g s 90 ((7 : Int32)).toNatClampNeg) ≤ y2) → at_X12_runs_202 X (d + 1) K E s (y1)) ∧ (¬ ((st_g s 90 ((7 : Int32)).toNatClampNeg) ≤ y2) → bi_in (2 : Int32) 8 = true ∧ (((¬ (st_g s 97 ((2 : Int32)).toNatClampNeg) = (-1 : Int32)) → at_X12_runs_202 X (d + 1) K E s (y1)) ∧ (¬ (¬ (st_g s 97 ((2 : Int32)).toNatClampNeg) = (-1 : Int32)) → bi_in (7 : Int32) 8 = true ∧ (cI X d 216 [.ref 77, .int (0 : Int32), .int (st_g s 97 ((7 : Int32)).toNatClampNeg), .int y2] s (fun (r1 : Int32) (s1 : bi_St) => at_X12_runs_97 X (d + 1) K E s1 (y1) (y2) (r1) ((1 : Int32)) ((0 : Int32))) (fun _ _ => False))))))) : at_X12_runs_56 X (d + 1) K E s y1 y2 := by
  show bi_T _ _ _ _ _
  refine bi_Tr 4 (s' := (63, [(0, .ref 77), (1, .int y1), (2, .int y2)], [.int (7 : Int32), .ref 90, .int y2], st_mm s)) rfl ?_
  obtain ⟨hi, h⟩ := h
  refine bi_Tial rfl rfl rfl hi ?_
  refine bi_Tr 1 (s' := ((if (st_g s 90 ((7 : Int32)).toNatClampNeg) ≤ y2 then 202 else 67), [(0, .ref 77), (1, .int y1), (2, .int y2)], [], st_mm s)) rfl (bi_Tif (fun hc => ?_) (fun hc => ?_))
  · have h := h.1 hc
    exact bi_Tww h rfl rfl ⟨rfl, rfl, trivial⟩
  · have h := h.2 hc
    refine bi_Tr 3 (s' := (72, [(0, .ref 77), (1, .int y1), (2, .int y2)], [.int (2 : Int32), .ref 97], st_mm s)) rfl ?_
    obtain ⟨hi, h⟩ := h
    refine bi_Tial rfl rfl rfl hi ?_
    refine bi_Tr 2 (s' := ((if ¬ (st_g s 97 ((2 : Int32)).toNatClampNeg) = (-1 : Int32) then 202 else 77), [(0, .ref 77), (1, .int y1), (2, .int y2)], [], st_mm s)) rfl (bi_Tif (fun hc => ?_) (fun hc => ?_))
    · have h := h.1 hc
      exact bi_Tww h rfl rfl ⟨rfl, rfl, trivial⟩
    · have h := h.2 hc
      refine bi_Tr 5 (s' := (85, [(0, .ref 77), (1, .int y1), (2, .int y2)], [.int (7 : Int32), .ref 97, .int (0 : Int32), .ref 77], st_mm s)) rfl ?_
      obtain ⟨hi, h⟩ := h
      refine bi_Tial rfl rfl rfl hi ?_
      refine bi_Tr 1 (s' := (87, [(0, .ref 77), (1, .int y1), (2, .int y2)], [.int y2, .int (st_g s 97 ((7 : Int32)).toNatClampNeg), .int (0 : Int32), .ref 77], st_mm s)) rfl ?_
      refine bi_TcI (as := [.ref 77, .int (0 : Int32), .int (st_g s 97 ((7 : Int32)).toNatClampNeg), .int y2]) rfl rfl ?_
      refine cI.mono h (fun r1 s1 h => ?_) (fun _ _ h => h.elim)
      refine bi_Tr 5 (s' := (97, [(5, .int (0 : Int32)), (4, .int (1 : Int32)), (3, .int r1), (0, .ref 77), (1, .int y1), (2, .int y2)], [], st_mm s1)) rfl ?_
      exact bi_Tww h rfl rfl ⟨rfl, rfl, rfl, rfl, rfl, rfl, trivial⟩
theorem go_X12_runs_202 {X : bi_X} {d : Nat} {K : bi_St → Prop} {E : Nat → bi_St → Prop}  {s : bi_St} {y1 : Int32}  (h : bi_in (2 : Int32) 8 = true ∧ (((¬ (st_g s 97 ((2 : Int32)).toNatClampNeg) = (-1 : Int32)) → (((0 : Int32) = 0) → bi_in (0 : Int32) 8 = true ∧ ((((0 : Int32) = 0) → bi_in (1 : Int32) 8 = true ∧ (bi_in (4 : Int32) 8 = true ∧ (bi_in (5 : Int32) 8 = true ∧ (bi_in (6 : Int32) 8 = true ∧ (K (st_p (st_p (st_p (st_p (st_p s 97 ((0 : Int32)).toNatClampNeg (-1 : Int32)) 97 ((1 : Int32)).toNatClampNeg (0 : Int32)) 97 ((4 : Int32)).toNatClampNeg (st_g (st_p (st_p s 97 ((0 : Int32)).toNatClampNeg (-1 : Int32)) 97 ((1 : Int32)).toNatClampNeg (0 : Int32)) 77 49)) 97 ((5 : Int32)).toNatClampNeg (st_g (st_p (st_p (st_p s 97 ((0 : Int32)).toNatClampNeg (-1 : Int32)) 97 ((1 : Int32)).toNatClampNeg (0 : Int32)) 97 ((4 : Int32)).toNatClampNeg (st_g (st_p (st_p s 97 ((0 : Int32)).toNatClampNeg (-1 : Int32)) 97 ((1 : Int32)).toNatClampNeg (0 : Int32)) 77 49)) 77 44)) 97 ((6 : Int32)).toNatClampNeg (st_g (st_p (st_p (st_p (st_p s 97 ((0 : Int32)).toNatClampNeg (-1 : Int32)) 97 ((1 : Int32)).toNatClampNeg (0 : Int32)) 97 ((4 : Int32)).toNatClampNeg (st_g (st_p (st_p s 97 ((0 : Int32)).toNatClampNeg (-1 : Int32)) 97 ((1 : Int32)).toNatClampNeg (0 : Int32)) 77 49)) 97 ((5 : Int32)).toNatClampNeg (st_g (st_p (st_p (st_p s 97 ((0 : Int32)).toNatClampNeg (-1 : Int32)) 97 ((1 : Int32)).toNatClampNeg (0 : Int32)) 97 ((4 : Int32)).toNatClampNeg (st_g (st_p (st_p s 97 ((0 : Int32)).toNatClampNeg (-1 : Int32)) 97 ((1 : Int32)).toNatClampNeg (0 : Int32)) 77 49)) 77 44)) 77 45))))))) ∧ (¬ ((0 : Int32) = 0) → bi_in (1 : Int32) 8 = true ∧ (bi_in (4 : Int32) 8 = true ∧ (bi_in (5 : Int32) 8 = true ∧ (bi_in (6 : Int32) 8 = true ∧ (K (st_p (st_p (st_p (st_p (st_p s 97 ((0 : Int32)).toNatClampNeg (-1 : Int32)) 97 ((1 : Int32)).toNatClampNeg y1) 97 ((4 : Int32)).toNatClampNeg (st_g (st_p (st_p s 97 ((0 : Int32)).toNatClampNeg (-1 : Int32)) 97 ((1 : Int32)).toNatClampNeg y1) 77 49)) 97 ((5 : Int32)).toNatClampNeg (st_g (st_p (st_p (st_p s 97 ((0 : Int32)).toNatClampNeg (-1 : Int32)) 97 ((1 : Int32)).toNatClampNeg y1) 97 ((4 : Int32)).toNatClampNeg (st_g (st_p (st_p s 97 ((0 : Int32)).toNatClampNeg (-1 : Int32)) 97 ((1 : Int32)).toNatClampNeg y1) 77 49)) 77 44)) 97 ((6 : Int32)).toNatClampNeg (st_g (st_p (st_p (st_p (st_p s 97 ((0 : Int32)).toNatClampNeg (-1 : Int32)) 97 ((1 : Int32)).toNatClampNeg y1) 97 ((4 : Int32)).toNatClampNeg (st_g (st_p (st_p s 97 ((0 : Int32)).toNatClampNeg (-1 : Int32)) 97 ((1 : Int32)).toNatClampNeg y1) 77 49)) 97 ((5 : Int32)).toNatClampNeg (st_g (st_p (st_p (st_p s 97 ((0 : Int32)).toNatClampNeg (-1 : Int32)) 97 ((1 : Int32)).toNatClampNeg y1) 97 ((4 : Int32)).toNatClampNeg (st_g (st_p (st_p s 97 ((0 : Int32)).toNatClampNeg (-1 : Int32)) 97 ((1 : Int32)).toNatClampNeg y1) 77 49)) 77 44)) 77 45))))))))) ∧ (¬ ((0 : Int32) = 0) → cI X d 166 [.int y1] s (fun (r2 : Int32) (s2 : bi_St) => bi_in (0 : Int32) 8 = true ∧ ((((0 : Int32) = 0) → bi_in (1 : Int32) 8 = true ∧ (bi_in (4 : Int32) 8 = true ∧ (bi_in (5 : Int32) 8 = true ∧ (bi_in (6 : Int32) 8 = true ∧ (K (st_p (st_p (st_p (st_p (st_p s2 97 ((0 : Int32)).toNatClampNeg r2) 97 ((1 : Int32)).toNatClampNeg (0 : Int32)) 97 ((4 : Int32)).toNatClampNeg (st_g (st_p (st_p s2 97 ((0 : Int32)).toNatClampNeg r2) 97 ((1 : Int32)).toNatClampNeg (0 : Int32)) 77 49)) 97 ((5 : Int32)).toNatClampNeg (st_g (st_p (st_p (st_p s2 97 ((0 : Int32)).toNatClampNeg r2) 97 ((1 : Int32)).toNatClampNeg (0 : Int32)) 97 ((4 : Int32)).toNatClampNeg (st_g (st_p (st_p s2 97 ((0 : Int32)).toNatClampNeg r2) 97 ((1 : Int32)).toNatClampNeg (0 : Int32)) 77 49)) 77 44)) 97 ((6 : Int32)).toNatClampNeg (st_g (st_p (st_p (st_p (st_p s2 97 ((0 : Int32)).toNatClampNeg r2) 97 ((1 : Int32)).toNatClampNeg (0 : Int32)) 97 ((4 : Int32)).toNatClampNeg (st_g (st_p (st_p s2 97 ((0 : Int32)).toNatClampNeg r2) 97 ((1 : Int32)).toNatClampNeg (0 : Int32)) 77 49)) 97 ((5 : Int32)).toNatClampNeg (st_g (st_p (st_p (st_p s2 97 ((0 : Int32)).toNatClampNeg r2) 97 ((1 : Int32)).toNatClampNeg (0 : Int32)) 97 ((4 : Int32)).toNatClampNeg (st_g (st_p (st_p s2 97 ((0 : Int32)).toNatClampNeg r2) 97 ((1 : Int32)).toNatClampNeg (0 : Int32)) 77 49)) 77 44)) 77 45))))))) ∧ (¬ ((0 : Int32) = 0) → bi_in (1 : Int32) 8 = true ∧ (bi_in (4 : Int32) 8 = true ∧ (bi_in (5 : Int32) 8 = true ∧ (bi_in (6 : Int32) 8 = true ∧ (K (st_p (st_p (st_p (st_p (st_p s2 97 ((0 : Int32)).toNatClampNeg r2) 97 ((1 : Int32)).toNatClampNeg y1) 97 ((4 : Int32)).toNatClampNeg (st_g (st_p (st_p s2 97 ((0 : Int32)).toNatClampNeg r2) 97 ((1 : Int32)).toNatClampNeg y1) 77 49)) 97 ((5 : Int32)).toNatClampNeg (st_g (st_p (st_p (st_p s2 97 ((0 : Int32)).toNatClampNeg r2) 97 ((1 : Int32)).toNatClampNeg y1) 97 ((4 : Int32)).toNatClampNeg (st_g (st_p (st_p s2 97 ((0 : Int32)).toNatClampNeg r2) 97 ((1 : Int32)).toNatClampNeg y1) 77 49)) 77 44)) 97 ((6 : Int32)).toNatClampNeg (st_g (st_p (st_p (st_p (st_p s2 97 ((0 : Int32)).toNatClampNeg r2) 97 ((1 : Int32)).toNatClampNeg y1) 97 ((4 : Int32)).toNatClampNeg (st_g (st_p (st_p s2 97 ((0 : Int32)).toNatClampNeg r2) 97 ((1 : Int32)).toNatClampNeg y1) 77 49)) 97 ((5 : Int32)).toNatClampNeg (st_g (st_p (st_p (st_p s2 97 ((0 : Int32)).toNatClampNeg r2) 97 ((1 : Int32)).toNatClampNeg y1) 97 ((4 : Int32)).toNatClampNeg (st_g (st_p (st_p s2 97 ((0 : Int32)).toNatClampNeg r2) 97 ((1 : Int32)).toNatClampNeg y1) 77 49)) 77 44)) 77 45))))))))) (fun _ _ => False))) ∧ (¬ (¬ (st_g s 97 ((2 : Int32)).toNatClampNeg) = (-1 : Int32)) → (((1 : Int32) = 0) → bi_in (0 : Int32) 8 = true ∧ ((((1 : Int32) = 0) → bi_in (1 : Int32) 8 = true ∧ (bi_in (4 : Int32) 8 = true ∧ (bi_in (5 : Int32) 8 = true ∧ (bi_in (6 : Int32) 8 = true ∧ (K (st_p (st_p (st_p (st_p (st_p s 97 ((0 : Int32)).toNatClampNeg (-1 : Int32)) 97 ((1 : Int32)).toNatClampNeg (0 : Int32)) 97 ((4 : Int32)).toNatClampNeg (st_g (st_p (st_p s 97 ((0 : Int32)).toNatClampNeg (-1 : Int32)) 97 ((1 : Int32)).toNatClampNeg (0 : Int32)) 77 49)) 97 ((5 : Int32)).toNatClampNeg (st_g (st_p (st_p (st_p s 97 ((0 : Int32)).toNatClampNeg (-1 : Int32)) 97 ((1 : Int32)).toNatClampNeg (0 : Int32)) 97 ((4 : Int32)).toNatClampNeg (st_g (st_p (st_p s 97 ((0 : Int32)).toNatClampNeg (-1 : Int32)) 97 ((1 : Int32)).toNatClampNeg (0 : Int32)) 77 49)) 77 44)) 97 ((6 : Int32)).toNatClampNeg (st_g (st_p (st_p (st_p (st_p s 97 ((0 : Int32)).toNatClampNeg (-1 : Int32)) 97 ((1 : Int32)).toNatClampNeg (0 : Int32)) 97 ((4 : Int32)).toNatClampNeg (st_g (st_p (st_p s 97 ((0 : Int32)).toNatClampNeg (-1 : Int32)) 97 ((1 : Int32)).toNatClampNeg (0 : Int32)) 77 49)) 97 ((5 : Int32)).toNatClampNeg (st_g (st_p (st_p (st_p s 97 ((0 : Int32)).toNatClampNeg (-1 : Int32)) 97 ((1 : Int32)).toNatClampNeg (0 : Int32)) 97 ((4 : Int32)).toNatClampNeg (st_g (st_p (st_p s 97 ((0 : Int32)).toNatClampNeg (-1 : Int32)) 97 ((1 : Int32)).toNatClampNeg (0 : Int32)) 77 49)) 77 44)) 77 45))))))) ∧ (¬ ((1 : Int32) = 0) → bi_in (1 : Int32) 8 = true ∧ (bi_in (4 : Int32) 8 = true ∧ (bi_in (5 : Int32) 8 = true ∧ (bi_in (6 : Int32) 8 = true ∧ (K (st_p (st_p (st_p (st_p (st_p s 97 ((0 : Int32)).toNatClampNeg (-1 : Int32)) 97 ((1 : Int32)).toNatClampNeg y1) 97 ((4 : Int32)).toNatClampNeg (st_g (st_p (st_p s 97 ((0 : Int32)).toNatClampNeg (-1 : Int32)) 97 ((1 : Int32)).toNatClampNeg y1) 77 49)) 97 ((5 : Int32)).toNatClampNeg (st_g (st_p (st_p (st_p s 97 ((0 : Int32)).toNatClampNeg (-1 : Int32)) 97 ((1 : Int32)).toNatClampNeg y1) 97 ((4 : Int32)).toNatClampNeg (st_g (st_p (st_p s 97 ((0 : Int32)).toNatClampNeg (-1 : Int32)) 97 ((1 : Int32)).toNatClampNeg y1) 77 49)) 77 44)) 97 ((6 : Int32)).toNatClampNeg (st_g (st_p (st_p (st_p (st_p s 97 ((0 : Int32)).toNatClampNeg (-1 : Int32)) 97 ((1 : Int32)).toNatClampNeg y1) 97 ((4 : Int32)).toNatClampNeg (st_g (st_p (st_p s 97 ((0 : Int32)).toNatClampNeg (-1 : Int32)) 97 ((1 : Int32)).toNatClampNeg y1) 77 49)) 97 ((5 : Int32)).toNatClampNeg (st_g (st_p (st_p (st_p s 97 ((0 : Int32)).toNatClampNeg (-1 : Int32)) 97 ((1 : Int32)).toNatClampNeg y1) 97 ((4 : Int32)).toNatClampNeg (st_g (st_p (st_p s 97 ((0 : Int32)).toNatClampNeg (-1 : Int32)) 97 ((1 : Int32)).toNatClampNeg y1) 77 49)) 77 44)) 77 45))))))))) ∧ (¬ ((1 : Int32) = 0) → cI X d 166 [.int y1] s (fun (r3 : Int32) (s3 : bi_St) => bi_in (0 : Int32) 8 = true ∧ ((((1 : Int32) = 0) → bi_in (1 : Int32) 8 = true ∧ (bi_in (4 : Int32) 8 = true ∧ (bi_in (5 : Int32) 8 = true ∧ (bi_in (6 : Int32) 8 = true ∧ (K (st_p (st_p (st_p (st_p (st_p s3 97 ((0 : Int32)).toNatClampNeg r3) 97 ((1 : Int32)).toNatClampNeg (0 : Int32)) 97 ((4 : Int32)).toNatClampNeg (st_g (st_p (st_p s3 97 ((0 : Int32)).toNatClampNeg r3) 97 ((1 : Int32)).toNatClampNeg (0 : Int32)) 77 49)) 97 ((5 : Int32)).toNatClampNeg (st_g (st_p (st_p (st_p s3 97 ((0 : Int32)).toNatClampNeg r3) 97 ((1 : Int32)).toNatClampNeg (0 : Int32)) 97 ((4 : Int32)).toNatClampNeg (st_g (st_p (st_p s3 97 ((0 : Int32)).toNatClampNeg r3) 97 ((1 : Int32)).toNatClampNeg (0 : Int32)) 77 49)) 77 44)) 97 ((6 : Int32)).toNatClampNeg (st_g (st_p (st_p (st_p (st_p s3 97 ((0 : Int32)).toNatClampNeg r3) 97 ((1 : Int32)).toNatClampNeg (0 : Int32)) 97 ((4 : Int32)).toNatClampNeg (st_g (st_p (st_p s3 97 ((0 : Int32)).toNatClampNeg r3) 97 ((1 : Int32)).toNatClampNeg (0 : Int32)) 77 49)) 97 ((5 : Int32)).toNatClampNeg (st_g (st_p (st_p (st_p s3 97 ((0 : Int32)).toNatClampNeg r3) 97 ((1 : Int32)).toNatClampNeg (0 : Int32)) 97 ((4 : Int32)).toNatClampNeg (st_g (st_p (st_p s3 97 ((0 : Int32)).toNatClampNeg r3) 97 ((1 : Int32)).toNatClampNeg (0 : Int32)) 77 49)) 77 44)) 77 45))))))) ∧ (¬ ((1 : Int32) = 0) → bi_in (1 : Int32) 8 = true ∧ (bi_in (4 : Int32) 8 = true ∧ (bi_in (5 : Int32) 8 = true ∧ (bi_in (6 : Int32) 8 = true ∧ (K (st_p (st_p (st_p (st_p (st_p s3 97 ((0 : Int32)).toNatClampNeg r3) 97 ((1 : Int32)).toNatClampNeg y1) 97 ((4 : Int32)).toNatClampNeg (st_g (st_p (st_p s3 97 ((0 : Int32)).toNatClampNeg r3) 97 ((1 : Int32)).toNatClampNeg y1) 77 49)) 97 ((5 : Int32)).toNatClampNeg (st_g (st_p (st_p (st_p s3 97 ((0 : Int32)).toNatClampNeg r3) 97 ((1 : Int32)).toNatClampNeg y1) 97 ((4 : Int32)).toNatClampNeg (st_g (st_p (st_p s3 97 ((0 : Int32)).toNatClampNeg r3) 97 ((1 : Int32)).toNatClampNeg y1) 77 49)) 77 44)) 97 ((6 : Int32)).toNatClampNeg (st_g (st_p (st_p (st_p (st_p s3 97 ((0 : Int32)).toNatClampNeg r3) 97 ((1 : Int32)).toNatClampNeg y1) 97 ((4 : Int32)).toNatClampNeg (st_g (st_p (st_p s3 97 ((0 : Int32)).toNatClampNeg r3) 97 ((1 : Int32)).toNatClampNeg y1) 77 49)) 97 ((5 : Int32)).toNatClampNeg (st_g (st_p (st_p (st_p s3 97 ((0 : Int32)).toNatClampNeg r3) 97 ((1 : Int32)).toNatClampNeg y1) 97 ((4 : Int32)).toNatClampNeg (st_g (st_p (st_p s3 97 ((0 : Int32)).toNatClampNeg r3) 97 ((1 : Int32)).toNatClampNeg y1) 77 49)) 77 44)) 77 45))))))))) (fun _ _ => False))))) : at_X12_runs_202 X (d + 1) K E s y1 := by
  show bi_T _ _ _ _ _
  refine bi_Tr 3 (s' := (207, [(0, .ref 77), (1, .int y1)], [.int (2 : Int32), .ref 97], st_mm s)) rfl ?_
  obtain ⟨hi, h⟩ := h
  refine bi_Tial rfl rfl rfl hi ?_
  refine bi_Tr 2 (s' := ((if ¬ (st_g s 97 ((2 : Int32)).toNatClampNeg) = (-1 : Int32) then 216 else 212), [(0, .ref 77), (1, .int y1)], [], st_mm s)) rfl (bi_Tif (fun hc => ?_) (fun hc => ?_))
  · have h := h.1 hc
    refine bi_Tr 7 (s' := ((if (0 : Int32) = 0 then 234 else 227), [(2, .int (0 : Int32)), (0, .ref 77), (1, .int y1)], [.int (0 : Int32), .ref 97], st_mm s)) rfl (bi_Tif (fun hc => ?_) (fun hc => ?_))
    · have h := h.1 hc
      refine bi_Tr 1 (s' := (235, [(2, .int (0 : Int32)), (0, .ref 77), (1, .int y1)], [.int (-1 : Int32), .int (0 : Int32), .ref 97], st_mm s)) rfl ?_
      obtain ⟨hi, h⟩ := h
      refine bi_Tias rfl rfl hi ?_
      refine bi_Tr 5 (s' := ((if (0 : Int32) = 0 then 249 else 245), [(2, .int (0 : Int32)), (0, .ref 77), (1, .int y1)], [.int (1 : Int32), .ref 97], st_mm (st_p s 97 ((0 : Int32)).toNatClampNeg (-1 : Int32)))) rfl (bi_Tif (fun hc => ?_) (fun hc => ?_))
      · have h := h.1 hc
        refine bi_Tr 1 (s' := (250, [(2, .int (0 : Int32)), (0, .ref 77), (1, .int y1)], [.int (0 : Int32), .int (1 : Int32), .ref 97], st_mm (st_p s 97 ((0 : Int32)).toNatClampNeg (-1 : Int32)))) rfl ?_
        obtain ⟨hi, h⟩ := h
        refine bi_Tias rfl rfl hi ?_
        refine bi_Tr 5 (s' := (260, [(2, .int (0 : Int32)), (0, .ref 77), (1, .int y1)], [.int (st_g (st_p (st_p s 97 ((0 : Int32)).toNatClampNeg (-1 : Int32)) 97 ((1 : Int32)).toNatClampNeg (0 : Int32)) 77 49), .int (4 : Int32), .ref 97], st_mm (st_p (st_p s 97 ((0 : Int32)).toNatClampNeg (-1 : Int32)) 97 ((1 : Int32)).toNatClampNeg (0 : Int32)))) rfl ?_
        obtain ⟨hi, h⟩ := h
        refine bi_Tias rfl rfl hi ?_
        refine bi_Tr 5 (s' := (270, [(2, .int (0 : Int32)), (0, .ref 77), (1, .int y1)], [.int (st_g (st_p (st_p (st_p s 97 ((0 : Int32)).toNatClampNeg (-1 : Int32)) 97 ((1 : Int32)).toNatClampNeg (0 : Int32)) 97 ((4 : Int32)).toNatClampNeg (st_g (st_p (st_p s 97 ((0 : Int32)).toNatClampNeg (-1 : Int32)) 97 ((1 : Int32)).toNatClampNeg (0 : Int32)) 77 49)) 77 44), .int (5 : Int32), .ref 97], st_mm (st_p (st_p (st_p s 97 ((0 : Int32)).toNatClampNeg (-1 : Int32)) 97 ((1 : Int32)).toNatClampNeg (0 : Int32)) 97 ((4 : Int32)).toNatClampNeg (st_g (st_p (st_p s 97 ((0 : Int32)).toNatClampNeg (-1 : Int32)) 97 ((1 : Int32)).toNatClampNeg (0 : Int32)) 77 49)))) rfl ?_
        obtain ⟨hi, h⟩ := h
        refine bi_Tias rfl rfl hi ?_
        refine bi_Tr 5 (s' := (281, [(2, .int (0 : Int32)), (0, .ref 77), (1, .int y1)], [.int (st_g (st_p (st_p (st_p (st_p s 97 ((0 : Int32)).toNatClampNeg (-1 : Int32)) 97 ((1 : Int32)).toNatClampNeg (0 : Int32)) 97 ((4 : Int32)).toNatClampNeg (st_g (st_p (st_p s 97 ((0 : Int32)).toNatClampNeg (-1 : Int32)) 97 ((1 : Int32)).toNatClampNeg (0 : Int32)) 77 49)) 97 ((5 : Int32)).toNatClampNeg (st_g (st_p (st_p (st_p s 97 ((0 : Int32)).toNatClampNeg (-1 : Int32)) 97 ((1 : Int32)).toNatClampNeg (0 : Int32)) 97 ((4 : Int32)).toNatClampNeg (st_g (st_p (st_p s 97 ((0 : Int32)).toNatClampNeg (-1 : Int32)) 97 ((1 : Int32)).toNatClampNeg (0 : Int32)) 77 49)) 77 44)) 77 45), .int (6 : Int32), .ref 97], st_mm (st_p (st_p (st_p (st_p s 97 ((0 : Int32)).toNatClampNeg (-1 : Int32)) 97 ((1 : Int32)).toNatClampNeg (0 : Int32)) 97 ((4 : Int32)).toNatClampNeg (st_g (st_p (st_p s 97 ((0 : Int32)).toNatClampNeg (-1 : Int32)) 97 ((1 : Int32)).toNatClampNeg (0 : Int32)) 77 49)) 97 ((5 : Int32)).toNatClampNeg (st_g (st_p (st_p (st_p s 97 ((0 : Int32)).toNatClampNeg (-1 : Int32)) 97 ((1 : Int32)).toNatClampNeg (0 : Int32)) 97 ((4 : Int32)).toNatClampNeg (st_g (st_p (st_p s 97 ((0 : Int32)).toNatClampNeg (-1 : Int32)) 97 ((1 : Int32)).toNatClampNeg (0 : Int32)) 77 49)) 77 44)))) rfl ?_
        obtain ⟨hi, h⟩ := h
        refine bi_Tias rfl rfl hi ?_
        exact bi_Tv rfl rfl (Or.inl ⟨_, rfl, h⟩)
      · have h := h.2 hc
        refine bi_Tr 2 (s' := (250, [(2, .int (0 : Int32)), (0, .ref 77), (1, .int y1)], [.int y1, .int (1 : Int32), .ref 97], st_mm (st_p s 97 ((0 : Int32)).toNatClampNeg (-1 : Int32)))) rfl ?_
        obtain ⟨hi, h⟩ := h
        refine bi_Tias rfl rfl hi ?_
        refine bi_Tr 5 (s' := (260, [(2, .int (0 : Int32)), (0, .ref 77), (1, .int y1)], [.int (st_g (st_p (st_p s 97 ((0 : Int32)).toNatClampNeg (-1 : Int32)) 97 ((1 : Int32)).toNatClampNeg y1) 77 49), .int (4 : Int32), .ref 97], st_mm (st_p (st_p s 97 ((0 : Int32)).toNatClampNeg (-1 : Int32)) 97 ((1 : Int32)).toNatClampNeg y1))) rfl ?_
        obtain ⟨hi, h⟩ := h
        refine bi_Tias rfl rfl hi ?_
        refine bi_Tr 5 (s' := (270, [(2, .int (0 : Int32)), (0, .ref 77), (1, .int y1)], [.int (st_g (st_p (st_p (st_p s 97 ((0 : Int32)).toNatClampNeg (-1 : Int32)) 97 ((1 : Int32)).toNatClampNeg y1) 97 ((4 : Int32)).toNatClampNeg (st_g (st_p (st_p s 97 ((0 : Int32)).toNatClampNeg (-1 : Int32)) 97 ((1 : Int32)).toNatClampNeg y1) 77 49)) 77 44), .int (5 : Int32), .ref 97], st_mm (st_p (st_p (st_p s 97 ((0 : Int32)).toNatClampNeg (-1 : Int32)) 97 ((1 : Int32)).toNatClampNeg y1) 97 ((4 : Int32)).toNatClampNeg (st_g (st_p (st_p s 97 ((0 : Int32)).toNatClampNeg (-1 : Int32)) 97 ((1 : Int32)).toNatClampNeg y1) 77 49)))) rfl ?_
        obtain ⟨hi, h⟩ := h
        refine bi_Tias rfl rfl hi ?_
        refine bi_Tr 5 (s' := (281, [(2, .int (0 : Int32)), (0, .ref 77), (1, .int y1)], [.int (st_g (st_p (st_p (st_p (st_p s 97 ((0 : Int32)).toNatClampNeg (-1 : Int32)) 97 ((1 : Int32)).toNatClampNeg y1) 97 ((4 : Int32)).toNatClampNeg (st_g (st_p (st_p s 97 ((0 : Int32)).toNatClampNeg (-1 : Int32)) 97 ((1 : Int32)).toNatClampNeg y1) 77 49)) 97 ((5 : Int32)).toNatClampNeg (st_g (st_p (st_p (st_p s 97 ((0 : Int32)).toNatClampNeg (-1 : Int32)) 97 ((1 : Int32)).toNatClampNeg y1) 97 ((4 : Int32)).toNatClampNeg (st_g (st_p (st_p s 97 ((0 : Int32)).toNatClampNeg (-1 : Int32)) 97 ((1 : Int32)).toNatClampNeg y1) 77 49)) 77 44)) 77 45), .int (6 : Int32), .ref 97], st_mm (st_p (st_p (st_p (st_p s 97 ((0 : Int32)).toNatClampNeg (-1 : Int32)) 97 ((1 : Int32)).toNatClampNeg y1) 97 ((4 : Int32)).toNatClampNeg (st_g (st_p (st_p s 97 ((0 : Int32)).toNatClampNeg (-1 : Int32)) 97 ((1 : Int32)).toNatClampNeg y1) 77 49)) 97 ((5 : Int32)).toNatClampNeg (st_g (st_p (st_p (st_p s 97 ((0 : Int32)).toNatClampNeg (-1 : Int32)) 97 ((1 : Int32)).toNatClampNeg y1) 97 ((4 : Int32)).toNatClampNeg (st_g (st_p (st_p s 97 ((0 : Int32)).toNatClampNeg (-1 : Int32)) 97 ((1 : Int32)).toNatClampNeg y1) 77 49)) 77 44)))) rfl ?_
        obtain ⟨hi, h⟩ := h
        refine bi_Tias rfl rfl hi ?_
        exact bi_Tv rfl rfl (Or.inl ⟨_, rfl, h⟩)
    · have h := h.2 hc
      refine bi_Tr 1 (s' := (228, [(2, .int (0 : Int32)), (0, .ref 77), (1, .int y1)], [.int y1, .int (0 : Int32), .ref 97], st_mm s)) rfl ?_
      refine bi_TcI (as := [.int y1]) rfl rfl ?_
      refine cI.mono h (fun r2 s2 h => ?_) (fun _ _ h => h.elim)
      refine bi_Tr 1 (s' := (235, [(2, .int (0 : Int32)), (0, .ref 77), (1, .int y1)], [.int r2, .int (0 : Int32), .ref 97], st_mm s2)) rfl ?_
      obtain ⟨hi, h⟩ := h
      refine bi_Tias rfl rfl hi ?_
      refine bi_Tr 5 (s' := ((if (0 : Int32) = 0 then 249 else 245), [(2, .int (0 : Int32)), (0, .ref 77), (1, .int y1)], [.int (1 : Int32), .ref 97], st_mm (st_p s2 97 ((0 : Int32)).toNatClampNeg r2))) rfl (bi_Tif (fun hc => ?_) (fun hc => ?_))
      · have h := h.1 hc
        refine bi_Tr 1 (s' := (250, [(2, .int (0 : Int32)), (0, .ref 77), (1, .int y1)], [.int (0 : Int32), .int (1 : Int32), .ref 97], st_mm (st_p s2 97 ((0 : Int32)).toNatClampNeg r2))) rfl ?_
        obtain ⟨hi, h⟩ := h
        refine bi_Tias rfl rfl hi ?_
        refine bi_Tr 5 (s' := (260, [(2, .int (0 : Int32)), (0, .ref 77), (1, .int y1)], [.int (st_g (st_p (st_p s2 97 ((0 : Int32)).toNatClampNeg r2) 97 ((1 : Int32)).toNatClampNeg (0 : Int32)) 77 49), .int (4 : Int32), .ref 97], st_mm (st_p (st_p s2 97 ((0 : Int32)).toNatClampNeg r2) 97 ((1 : Int32)).toNatClampNeg (0 : Int32)))) rfl ?_
        obtain ⟨hi, h⟩ := h
        refine bi_Tias rfl rfl hi ?_
        refine bi_Tr 5 (s' := (270, [(2, .int (0 : Int32)), (0, .ref 77), (1, .int y1)], [.int (st_g (st_p (st_p (st_p s2 97 ((0 : Int32)).toNatClampNeg r2) 97 ((1 : Int32)).toNatClampNeg (0 : Int32)) 97 ((4 : Int32)).toNatClampNeg (st_g (st_p (st_p s2 97 ((0 : Int32)).toNatClampNeg r2) 97 ((1 : Int32)).toNatClampNeg (0 : Int32)) 77 49)) 77 44), .int (5 : Int32), .ref 97], st_mm (st_p (st_p (st_p s2 97 ((0 : Int32)).toNatClampNeg r2) 97 ((1 : Int32)).toNatClampNeg (0 : Int32)) 97 ((4 : Int32)).toNatClampNeg (st_g (st_p (st_p s2 97 ((0 : Int32)).toNatClampNeg r2) 97 ((1 : Int32)).toNatClampNeg (0 : Int32)) 77 49)))) rfl ?_
        obtain ⟨hi, h⟩ := h
        refine bi_Tias rfl rfl hi ?_
        refine bi_Tr 5 (s' := (281, [(2, .int (0 : Int32)), (0, .ref 77), (1, .int y1)], [.int (st_g (st_p (st_p (st_p (st_p s2 97 ((0 : Int32)).toNatClampNeg r2) 97 ((1 : Int32)).toNatClampNeg (0 : Int32)) 97 ((4 : Int32)).toNatClampNeg (st_g (st_p (st_p s2 97 ((0 : Int32)).toNatClampNeg r2) 97 ((1 : Int32)).toNatClampNeg (0 : Int32)) 77 49)) 97 ((5 : Int32)).toNatClampNeg (st_g (st_p (st_p (st_p s2 97 ((0 : Int32)).toNatClampNeg r2) 97 ((1 : Int32)).toNatClampNeg (0 : Int32)) 97 ((4 : Int32)).toNatClampNeg (st_g (st_p (st_p s2 97 ((0 : Int32)).toNatClampNeg r2) 97 ((1 : Int32)).toNatClampNeg (0 : Int32)) 77 49)) 77 44)) 77 45), .int (6 : Int32), .ref 97], st_mm (st_p (st_p (st_p (st_p s2 97 ((0 : Int32)).toNatClampNeg r2) 97 ((1 : Int32)).toNatClampNeg (0 : Int32)) 97 ((4 : Int32)).toNatClampNeg (st_g (st_p (st_p s2 97 ((0 : Int32)).toNatClampNeg r2) 97 ((1 : Int32)).toNatClampNeg (0 : Int32)) 77 49)) 97 ((5 : Int32)).toNatClampNeg (st_g (st_p (st_p (st_p s2 97 ((0 : Int32)).toNatClampNeg r2) 97 ((1 : Int32)).toNatClampNeg (0 : Int32)) 97 ((4 : Int32)).toNatClampNeg (st_g (st_p (st_p s2 97 ((0 : Int32)).toNatClampNeg r2) 97 ((1 : Int32)).toNatClampNeg (0 : Int32)) 77 49)) 77 44)))) rfl ?_
        obtain ⟨hi, h⟩ := h
        refine bi_Tias rfl rfl hi ?_
        exact bi_Tv rfl rfl (Or.inl ⟨_, rfl, h⟩)
      · have h := h.2 hc
        refine bi_Tr 2 (s' := (250, [(2, .int (0 : Int32)), (0, .ref 77), (1, .int y1)], [.int y1, .int (1 : Int32), .ref 97], st_mm (st_p s2 97 ((0 : Int32)).toNatClampNeg r2))) rfl ?_
        obtain ⟨hi, h⟩ := h
        refine bi_Tias rfl rfl hi ?_
        refine bi_Tr 5 (s' := (260, [(2, .int (0 : Int32)), (0, .ref 77), (1, .int y1)], [.int (st_g (st_p (st_p s2 97 ((0 : Int32)).toNatClampNeg r2) 97 ((1 : Int32)).toNatClampNeg y1) 77 49), .int (4 : Int32), .ref 97], st_mm (st_p (st_p s2 97 ((0 : Int32)).toNatClampNeg r2) 97 ((1 : Int32)).toNatClampNeg y1))) rfl ?_
        obtain ⟨hi, h⟩ := h
        refine bi_Tias rfl rfl hi ?_
        refine bi_Tr 5 (s' := (270, [(2, .int (0 : Int32)), (0, .ref 77), (1, .int y1)], [.int (st_g (st_p (st_p (st_p s2 97 ((0 : Int32)).toNatClampNeg r2) 97 ((1 : Int32)).toNatClampNeg y1) 97 ((4 : Int32)).toNatClampNeg (st_g (st_p (st_p s2 97 ((0 : Int32)).toNatClampNeg r2) 97 ((1 : Int32)).toNatClampNeg y1) 77 49)) 77 44), .int (5 : Int32), .ref 97], st_mm (st_p (st_p (st_p s2 97 ((0 : Int32)).toNatClampNeg r2) 97 ((1 : Int32)).toNatClampNeg y1) 97 ((4 : Int32)).toNatClampNeg (st_g (st_p (st_p s2 97 ((0 : Int32)).toNatClampNeg r2) 97 ((1 : Int32)).toNatClampNeg y1) 77 49)))) rfl ?_
        obtain ⟨hi, h⟩ := h
        refine bi_Tias rfl rfl hi ?_
        refine bi_Tr 5 (s' := (281, [(2, .int (0 : Int32)), (0, .ref 77), (1, .int y1)], [.int (st_g (st_p (st_p (st_p (st_p s2 97 ((0 : Int32)).toNatClampNeg r2) 97 ((1 : Int32)).toNatClampNeg y1) 97 ((4 : Int32)).toNatClampNeg (st_g (st_p (st_p s2 97 ((0 : Int32)).toNatClampNeg r2) 97 ((1 : Int32)).toNatClampNeg y1) 77 49)) 97 ((5 : Int32)).toNatClampNeg (st_g (st_p (st_p (st_p s2 97 ((0 : Int32)).toNatClampNeg r2) 97 ((1 : Int32)).toNatClampNeg y1) 97 ((4 : Int32)).toNatClampNeg (st_g (st_p (st_p s2 97 ((0 : Int32)).toNatClampNeg r2) 97 ((1 : Int32)).toNatClampNeg y1) 77 49)) 77 44)) 77 45), .int (6 : Int32), .ref 97], st_mm (st_p (st_p (st_p (st_p s2 97 ((0 : Int32)).toNatClampNeg r2) 97 ((1 : Int32)).toNatClampNeg y1) 97 ((4 : Int32)).toNatClampNeg (st_g (st_p (st_p s2 97 ((0 : Int32)).toNatClampNeg r2) 97 ((1 : Int32)).toNatClampNeg y1) 77 49)) 97 ((5 : Int32)).toNatClampNeg (st_g (st_p (st_p (st_p s2 97 ((0 : Int32)).toNatClampNeg r2) 97 ((1 : Int32)).toNatClampNeg y1) 97 ((4 : Int32)).toNatClampNeg (st_g (st_p (st_p s2 97 ((0 : Int32)).toNatClampNeg r2) 97 ((1 : Int32)).toNatClampNeg y1) 77 49)) 77 44)))) rfl ?_
        obtain ⟨hi, h⟩ := h
        refine bi_Tias rfl rfl hi ?_
        exact bi_Tv rfl rfl (Or.inl ⟨_, rfl, h⟩)
  · have h := h.2 hc
    refine bi_Tr 8 (s' := ((if (1 : Int32) = 0 then 234 else 227), [(2, .int (1 : Int32)), (0, .ref 77), (1, .int y1)], [.int (0 : Int32), .ref 97], st_mm s)) rfl (bi_Tif (fun hc => ?_) (fun hc => ?_))
    · have h := h.1 hc
      refine bi_Tr 1 (s' := (235, [(2, .int (1 : Int32)), (0, .ref 77), (1, .int y1)], [.int (-1 : Int32), .int (0 : Int32), .ref 97], st_mm s)) rfl ?_
      obtain ⟨hi, h⟩ := h
      refine bi_Tias rfl rfl hi ?_
      refine bi_Tr 5 (s' := ((if (1 : Int32) = 0 then 249 else 245), [(2, .int (1 : Int32)), (0, .ref 77), (1, .int y1)], [.int (1 : Int32), .ref 97], st_mm (st_p s 97 ((0 : Int32)).toNatClampNeg (-1 : Int32)))) rfl (bi_Tif (fun hc => ?_) (fun hc => ?_))
      · have h := h.1 hc
        refine bi_Tr 1 (s' := (250, [(2, .int (1 : Int32)), (0, .ref 77), (1, .int y1)], [.int (0 : Int32), .int (1 : Int32), .ref 97], st_mm (st_p s 97 ((0 : Int32)).toNatClampNeg (-1 : Int32)))) rfl ?_
        obtain ⟨hi, h⟩ := h
        refine bi_Tias rfl rfl hi ?_
        refine bi_Tr 5 (s' := (260, [(2, .int (1 : Int32)), (0, .ref 77), (1, .int y1)], [.int (st_g (st_p (st_p s 97 ((0 : Int32)).toNatClampNeg (-1 : Int32)) 97 ((1 : Int32)).toNatClampNeg (0 : Int32)) 77 49), .int (4 : Int32), .ref 97], st_mm (st_p (st_p s 97 ((0 : Int32)).toNatClampNeg (-1 : Int32)) 97 ((1 : Int32)).toNatClampNeg (0 : Int32)))) rfl ?_
        obtain ⟨hi, h⟩ := h
        refine bi_Tias rfl rfl hi ?_
        refine bi_Tr 5 (s' := (270, [(2, .int (1 : Int32)), (0, .ref 77), (1, .int y1)], [.int (st_g (st_p (st_p (st_p s 97 ((0 : Int32)).toNatClampNeg (-1 : Int32)) 97 ((1 : Int32)).toNatClampNeg (0 : Int32)) 97 ((4 : Int32)).toNatClampNeg (st_g (st_p (st_p s 97 ((0 : Int32)).toNatClampNeg (-1 : Int32)) 97 ((1 : Int32)).toNatClampNeg (0 : Int32)) 77 49)) 77 44), .int (5 : Int32), .ref 97], st_mm (st_p (st_p (st_p s 97 ((0 : Int32)).toNatClampNeg (-1 : Int32)) 97 ((1 : Int32)).toNatClampNeg (0 : Int32)) 97 ((4 : Int32)).toNatClampNeg (st_g (st_p (st_p s 97 ((0 : Int32)).toNatClampNeg (-1 : Int32)) 97 ((1 : Int32)).toNatClampNeg (0 : Int32)) 77 49)))) rfl ?_
        obtain ⟨hi, h⟩ := h
        refine bi_Tias rfl rfl hi ?_
        refine bi_Tr 5 (s' := (281, [(2, .int (1 : Int32)), (0, .ref 77), (1, .int y1)], [.int (st_g (st_p (st_p (st_p (st_p s 97 ((0 : Int32)).toNatClampNeg (-1 : Int32)) 97 ((1 : Int32)).toNatClampNeg (0 : Int32)) 97 ((4 : Int32)).toNatClampNeg (st_g (st_p (st_p s 97 ((0 : Int32)).toNatClampNeg (-1 : Int32)) 97 ((1 : Int32)).toNatClampNeg (0 : Int32)) 77 49)) 97 ((5 : Int32)).toNatClampNeg (st_g (st_p (st_p (st_p s 97 ((0 : Int32)).toNatClampNeg (-1 : Int32)) 97 ((1 : Int32)).toNatClampNeg (0 : Int32)) 97 ((4 : Int32)).toNatClampNeg (st_g (st_p (st_p s 97 ((0 : Int32)).toNatClampNeg (-1 : Int32)) 97 ((1 : Int32)).toNatClampNeg (0 : Int32)) 77 49)) 77 44)) 77 45), .int (6 : Int32), .ref 97], st_mm (st_p (st_p (st_p (st_p s 97 ((0 : Int32)).toNatClampNeg (-1 : Int32)) 97 ((1 : Int32)).toNatClampNeg (0 : Int32)) 97 ((4 : Int32)).toNatClampNeg (st_g (st_p (st_p s 97 ((0 : Int32)).toNatClampNeg (-1 : Int32)) 97 ((1 : Int32)).toNatClampNeg (0 : Int32)) 77 49)) 97 ((5 : Int32)).toNatClampNeg (st_g (st_p (st_p (st_p s 97 ((0 : Int32)).toNatClampNeg (-1 : Int32)) 97 ((1 : Int32)).toNatClampNeg (0 : Int32)) 97 ((4 : Int32)).toNatClampNeg (st_g (st_p (st_p s 97 ((0 : Int32)).toNatClampNeg (-1 : Int32)) 97 ((1 : Int32)).toNatClampNeg (0 : Int32)) 77 49)) 77 44)))) rfl ?_
        obtain ⟨hi, h⟩ := h
        refine bi_Tias rfl rfl hi ?_
        exact bi_Tv rfl rfl (Or.inl ⟨_, rfl, h⟩)
      · have h := h.2 hc
        refine bi_Tr 2 (s' := (250, [(2, .int (1 : Int32)), (0, .ref 77), (1, .int y1)], [.int y1, .int (1 : Int32), .ref 97], st_mm (st_p s 97 ((0 : Int32)).toNatClampNeg (-1 : Int32)))) rfl ?_
        obtain ⟨hi, h⟩ := h
        refine bi_Tias rfl rfl hi ?_
        refine bi_Tr 5 (s' := (260, [(2, .int (1 : Int32)), (0, .ref 77), (1, .int y1)], [.int (st_g (st_p (st_p s 97 ((0 : Int32)).toNatClampNeg (-1 : Int32)) 97 ((1 : Int32)).toNatClampNeg y1) 77 49), .int (4 : Int32), .ref 97], st_mm (st_p (st_p s 97 ((0 : Int32)).toNatClampNeg (-1 : Int32)) 97 ((1 : Int32)).toNatClampNeg y1))) rfl ?_
        obtain ⟨hi, h⟩ := h
        refine bi_Tias rfl rfl hi ?_
        refine bi_Tr 5 (s' := (270, [(2, .int (1 : Int32)), (0, .ref 77), (1, .int y1)], [.int (st_g (st_p (st_p (st_p s 97 ((0 : Int32)).toNatClampNeg (-1 : Int32)) 97 ((1 : Int32)).toNatClampNeg y1) 97 ((4 : Int32)).toNatClampNeg (st_g (st_p (st_p s 97 ((0 : Int32)).toNatClampNeg (-1 : Int32)) 97 ((1 : Int32)).toNatClampNeg y1) 77 49)) 77 44), .int (5 : Int32), .ref 97], st_mm (st_p (st_p (st_p s 97 ((0 : Int32)).toNatClampNeg (-1 : Int32)) 97 ((1 : Int32)).toNatClampNeg y1) 97 ((4 : Int32)).toNatClampNeg (st_g (st_p (st_p s 97 ((0 : Int32)).toNatClampNeg (-1 : Int32)) 97 ((1 : Int32)).toNatClampNeg y1) 77 49)))) rfl ?_
        obtain ⟨hi, h⟩ := h
        refine bi_Tias rfl rfl hi ?_
        refine bi_Tr 5 (s' := (281, [(2, .int (1 : Int32)), (0, .ref 77), (1, .int y1)], [.int (st_g (st_p (st_p (st_p (st_p s 97 ((0 : Int32)).toNatClampNeg (-1 : Int32)) 97 ((1 : Int32)).toNatClampNeg y1) 97 ((4 : Int32)).toNatClampNeg (st_g (st_p (st_p s 97 ((0 : Int32)).toNatClampNeg (-1 : Int32)) 97 ((1 : Int32)).toNatClampNeg y1) 77 49)) 97 ((5 : Int32)).toNatClampNeg (st_g (st_p (st_p (st_p s 97 ((0 : Int32)).toNatClampNeg (-1 : Int32)) 97 ((1 : Int32)).toNatClampNeg y1) 97 ((4 : Int32)).toNatClampNeg (st_g (st_p (st_p s 97 ((0 : Int32)).toNatClampNeg (-1 : Int32)) 97 ((1 : Int32)).toNatClampNeg y1) 77 49)) 77 44)) 77 45), .int (6 : Int32), .ref 97], st_mm (st_p (st_p (st_p (st_p s 97 ((0 : Int32)).toNatClampNeg (-1 : Int32)) 97 ((1 : Int32)).toNatClampNeg y1) 97 ((4 : Int32)).toNatClampNeg (st_g (st_p (st_p s 97 ((0 : Int32)).toNatClampNeg (-1 : Int32)) 97 ((1 : Int32)).toNatClampNeg y1) 77 49)) 97 ((5 : Int32)).toNatClampNeg (st_g (st_p (st_p (st_p s 97 ((0 : Int32)).toNatClampNeg (-1 : Int32)) 97 ((1 : Int32)).toNatClampNeg y1) 97 ((4 : Int32)).toNatClampNeg (st_g (st_p (st_p s 97 ((0 : Int32)).toNatClampNeg (-1 : Int32)) 97 ((1 : Int32)).toNatClampNeg y1) 77 49)) 77 44)))) rfl ?_
        obtain ⟨hi, h⟩ := h
        refine bi_Tias rfl rfl hi ?_
        exact bi_Tv rfl rfl (Or.inl ⟨_, rfl, h⟩)
    · have h := h.2 hc
      refine bi_Tr 1 (s' := (228, [(2, .int (1 : Int32)), (0, .ref 77), (1, .int y1)], [.int y1, .int (0 : Int32), .ref 97], st_mm s)) rfl ?_
      refine bi_TcI (as := [.int y1]) rfl rfl ?_
      refine cI.mono h (fun r3 s3 h => ?_) (fun _ _ h => h.elim)
      refine bi_Tr 1 (s' := (235, [(2, .int (1 : Int32)), (0, .ref 77), (1, .int y1)], [.int r3, .int (0 : Int32), .ref 97], st_mm s3)) rfl ?_
      obtain ⟨hi, h⟩ := h
      refine bi_Tias rfl rfl hi ?_
      refine bi_Tr 5 (s' := ((if (1 : Int32) = 0 then 249 else 245), [(2, .int (1 : Int32)), (0, .ref 77), (1, .int y1)], [.int (1 : Int32), .ref 97], st_mm (st_p s3 97 ((0 : Int32)).toNatClampNeg r3))) rfl (bi_Tif (fun hc => ?_) (fun hc => ?_))
      · have h := h.1 hc
        refine bi_Tr 1 (s' := (250, [(2, .int (1 : Int32)), (0, .ref 77), (1, .int y1)], [.int (0 : Int32), .int (1 : Int32), .ref 97], st_mm (st_p s3 97 ((0 : Int32)).toNatClampNeg r3))) rfl ?_
        obtain ⟨hi, h⟩ := h
        refine bi_Tias rfl rfl hi ?_
        refine bi_Tr 5 (s' := (260, [(2, .int (1 : Int32)), (0, .ref 77), (1, .int y1)], [.int (st_g (st_p (st_p s3 97 ((0 : Int32)).toNatClampNeg r3) 97 ((1 : Int32)).toNatClampNeg (0 : Int32)) 77 49), .int (4 : Int32), .ref 97], st_mm (st_p (st_p s3 97 ((0 : Int32)).toNatClampNeg r3) 97 ((1 : Int32)).toNatClampNeg (0 : Int32)))) rfl ?_
        obtain ⟨hi, h⟩ := h
        refine bi_Tias rfl rfl hi ?_
        refine bi_Tr 5 (s' := (270, [(2, .int (1 : Int32)), (0, .ref 77), (1, .int y1)], [.int (st_g (st_p (st_p (st_p s3 97 ((0 : Int32)).toNatClampNeg r3) 97 ((1 : Int32)).toNatClampNeg (0 : Int32)) 97 ((4 : Int32)).toNatClampNeg (st_g (st_p (st_p s3 97 ((0 : Int32)).toNatClampNeg r3) 97 ((1 : Int32)).toNatClampNeg (0 : Int32)) 77 49)) 77 44), .int (5 : Int32), .ref 97], st_mm (st_p (st_p (st_p s3 97 ((0 : Int32)).toNatClampNeg r3) 97 ((1 : Int32)).toNatClampNeg (0 : Int32)) 97 ((4 : Int32)).toNatClampNeg (st_g (st_p (st_p s3 97 ((0 : Int32)).toNatClampNeg r3) 97 ((1 : Int32)).toNatClampNeg (0 : Int32)) 77 49)))) rfl ?_
        obtain ⟨hi, h⟩ := h
        refine bi_Tias rfl rfl hi ?_
        refine bi_Tr 5 (s' := (281, [(2, .int (1 : Int32)), (0, .ref 77), (1, .int y1)], [.int (st_g (st_p (st_p (st_p (st_p s3 97 ((0 : Int32)).toNatClampNeg r3) 97 ((1 : Int32)).toNatClampNeg (0 : Int32)) 97 ((4 : Int32)).toNatClampNeg (st_g (st_p (st_p s3 97 ((0 : Int32)).toNatClampNeg r3) 97 ((1 : Int32)).toNatClampNeg (0 : Int32)) 77 49)) 97 ((5 : Int32)).toNatClampNeg (st_g (st_p (st_p (st_p s3 97 ((0 : Int32)).toNatClampNeg r3) 97 ((1 : Int32)).toNatClampNeg (0 : Int32)) 97 ((4 : Int32)).toNatClampNeg (st_g (st_p (st_p s3 97 ((0 : Int32)).toNatClampNeg r3) 97 ((1 : Int32)).toNatClampNeg (0 : Int32)) 77 49)) 77 44)) 77 45), .int (6 : Int32), .ref 97], st_mm (st_p (st_p (st_p (st_p s3 97 ((0 : Int32)).toNatClampNeg r3) 97 ((1 : Int32)).toNatClampNeg (0 : Int32)) 97 ((4 : Int32)).toNatClampNeg (st_g (st_p (st_p s3 97 ((0 : Int32)).toNatClampNeg r3) 97 ((1 : Int32)).toNatClampNeg (0 : Int32)) 77 49)) 97 ((5 : Int32)).toNatClampNeg (st_g (st_p (st_p (st_p s3 97 ((0 : Int32)).toNatClampNeg r3) 97 ((1 : Int32)).toNatClampNeg (0 : Int32)) 97 ((4 : Int32)).toNatClampNeg (st_g (st_p (st_p s3 97 ((0 : Int32)).toNatClampNeg r3) 97 ((1 : Int32)).toNatClampNeg (0 : Int32)) 77 49)) 77 44)))) rfl ?_
        obtain ⟨hi, h⟩ := h
        refine bi_Tias rfl rfl hi ?_
        exact bi_Tv rfl rfl (Or.inl ⟨_, rfl, h⟩)
      · have h := h.2 hc
        refine bi_Tr 2 (s' := (250, [(2, .int (1 : Int32)), (0, .ref 77), (1, .int y1)], [.int y1, .int (1 : Int32), .ref 97], st_mm (st_p s3 97 ((0 : Int32)).toNatClampNeg r3))) rfl ?_
        obtain ⟨hi, h⟩ := h
        refine bi_Tias rfl rfl hi ?_
        refine bi_Tr 5 (s' := (260, [(2, .int (1 : Int32)), (0, .ref 77), (1, .int y1)], [.int (st_g (st_p (st_p s3 97 ((0 : Int32)).toNatClampNeg r3) 97 ((1 : Int32)).toNatClampNeg y1) 77 49), .int (4 : Int32), .ref 97], st_mm (st_p (st_p s3 97 ((0 : Int32)).toNatClampNeg r3) 97 ((1 : Int32)).toNatClampNeg y1))) rfl ?_
        obtain ⟨hi, h⟩ := h
        refine bi_Tias rfl rfl hi ?_
        refine bi_Tr 5 (s' := (270, [(2, .int (1 : Int32)), (0, .ref 77), (1, .int y1)], [.int (st_g (st_p (st_p (st_p s3 97 ((0 : Int32)).toNatClampNeg r3) 97 ((1 : Int32)).toNatClampNeg y1) 97 ((4 : Int32)).toNatClampNeg (st_g (st_p (st_p s3 97 ((0 : Int32)).toNatClampNeg r3) 97 ((1 : Int32)).toNatClampNeg y1) 77 49)) 77 44), .int (5 : Int32), .ref 97], st_mm (st_p (st_p (st_p s3 97 ((0 : Int32)).toNatClampNeg r3) 97 ((1 : Int32)).toNatClampNeg y1) 97 ((4 : Int32)).toNatClampNeg (st_g (st_p (st_p s3 97 ((0 : Int32)).toNatClampNeg r3) 97 ((1 : Int32)).toNatClampNeg y1) 77 49)))) rfl ?_
        obtain ⟨hi, h⟩ := h
        refine bi_Tias rfl rfl hi ?_
        refine bi_Tr 5 (s' := (281, [(2, .int (1 : Int32)), (0, .ref 77), (1, .int y1)], [.int (st_g (st_p (st_p (st_p (st_p s3 97 ((0 : Int32)).toNatClampNeg r3) 97 ((1 : Int32)).toNatClampNeg y1) 97 ((4 : Int32)).toNatClampNeg (st_g (st_p (st_p s3 97 ((0 : Int32)).toNatClampNeg r3) 97 ((1 : Int32)).toNatClampNeg y1) 77 49)) 97 ((5 : Int32)).toNatClampNeg (st_g (st_p (st_p (st_p s3 97 ((0 : Int32)).toNatClampNeg r3) 97 ((1 : Int32)).toNatClampNeg y1) 97 ((4 : Int32)).toNatClampNeg (st_g (st_p (st_p s3 97 ((0 : Int32)).toNatClampNeg r3) 97 ((1 : Int32)).toNatClampNeg y1) 77 49)) 77 44)) 77 45), .int (6 : Int32), .ref 97], st_mm (st_p (st_p (st_p (st_p s3 97 ((0 : Int32)).toNatClampNeg r3) 97 ((1 : Int32)).toNatClampNeg y1) 97 ((4 : Int32)).toNatClampNeg (st_g (st_p (st_p s3 97 ((0 : Int32)).toNatClampNeg r3) 97 ((1 : Int32)).toNatClampNeg y1) 77 49)) 97 ((5 : Int32)).toNatClampNeg (st_g (st_p (st_p (st_p s3 97 ((0 : Int32)).toNatClampNeg r3) 97 ((1 : Int32)).toNatClampNeg y1) 97 ((4 : Int32)).toNatClampNeg (st_g (st_p (st_p s3 97 ((0 : Int32)).toNatClampNeg r3) 97 ((1 : Int32)).toNatClampNeg y1) 77 49)) 77 44)))) rfl ?_
        obtain ⟨hi, h⟩ := h
        refine bi_Tias rfl rfl hi ?_
        exact bi_Tv rfl rfl (Or.inl ⟨_, rfl, h⟩)
theorem go_X12_runs_97 {X : bi_X} {d : Nat} {K : bi_St → Prop} {E : Nat → bi_St → Prop}  {s : bi_St} {y1 : Int32} {y2 : Int32} {y3 : Int32} {y4 : Int32} {y5 : Int32}  (h : (((st_g s 77 49) ≤ y5) → at_X12_runs_181 X (d + 1) K E s (y1) (y2) (y4)) ∧ (¬ ((st_g s 77 49) ≤ y5) → ((y4 = 0) → at_X12_runs_181 X (d + 1) K E s (y1) (y2) (y4)) ∧ (¬ (y4 = 0) → bi_in y5 9 = true ∧ (bi_in y5 9 = true ∧ (bi_in y5 9 = true ∧ (((y3 = 0) → bi_in y5 9 = true ∧ (cI X d 235 [.ref 77, .int y5, .int y2] (st_p (st_p s 96 (y5).toNatClampNeg ((st_g s 96 (y5).toNatClampNeg) + (1 : Int32))) 95 (y5).toNatClampNeg ((st_g (st_p s 96 (y5).toNatClampNeg ((st_g s 96 (y5).toNatClampNeg) + (1 : Int32))) 95 (y5).toNatClampNeg) + (0 : Int32))) (fun (r4 : Int32) (s4 : bi_St) => ((¬ (st_g s4 77 46) = 0) → bi_in (2 : Int32) 8 = true ∧ (bi_in (3 : Int32) 8 = true ∧ (at_X12_runs_175 X (d + 1) K E (st_p (st_p s4 97 ((2 : Int32)).toNatClampNeg y2) 97 ((3 : Int32)).toNatClampNeg y5) (y1) (y2) (y3) (r4) (y5)))) ∧ (¬ (¬ (st_g s4 77 46) = 0) → at_X12_runs_175 X (d + 1) K E s4 (y1) (y2) (y3) (r4) (y5))) (fun _ _ => False))) ∧ (¬ (y3 = 0) → bi_in y5 9 = true ∧ (cI X d 235 [.ref 77, .int y5, .int y2] (st_p (st_p s 96 (y5).toNatClampNeg ((st_g s 96 (y5).toNatClampNeg) + (1 : Int32))) 95 (y5).toNatClampNeg ((st_g (st_p s 96 (y5).toNatClampNeg ((st_g s 96 (y5).toNatClampNeg) + (1 : Int32))) 95 (y5).toNatClampNeg) + (1 : Int32))) (fun (r5 : Int32) (s5 : bi_St) => ((¬ (st_g s5 77 46) = 0) → bi_in (2 : Int32) 8 = true ∧ (bi_in (3 : Int32) 8 = true ∧ (at_X12_runs_175 X (d + 1) K E (st_p (st_p s5 97 ((2 : Int32)).toNatClampNeg y2) 97 ((3 : Int32)).toNatClampNeg y5) (y1) (y2) (y3) (r5) (y5)))) ∧ (¬ (¬ (st_g s5 77 46) = 0) → at_X12_runs_175 X (d + 1) K E s5 (y1) (y2) (y3) (r5) (y5))) (fun _ _ => False))))))))) : at_X12_runs_97 X (d + 1) K E s y1 y2 y3 y4 y5 := by
  show bi_T _ _ _ _ _
  refine bi_Tr 4 (s' := ((if (st_g s 77 49) ≤ y5 then 181 else 106), [(0, .ref 77), (1, .int y1), (2, .int y2), (3, .int y3), (4, .int y4), (5, .int y5)], [], st_mm s)) rfl (bi_Tif (fun hc => ?_) (fun hc => ?_))
  · have h := h.1 hc
    exact bi_Tww h rfl rfl ⟨rfl, rfl, rfl, rfl, trivial⟩
  · have h := h.2 hc
    refine bi_Tr 2 (s' := ((if y4 = 0 then 181 else 111), [(0, .ref 77), (1, .int y1), (2, .int y2), (3, .int y3), (4, .int y4), (5, .int y5)], [], st_mm s)) rfl (bi_Tif (fun hc => ?_) (fun hc => ?_))
    · have h := h.1 hc
      exact bi_Tww h rfl rfl ⟨rfl, rfl, rfl, rfl, trivial⟩
    · have h := h.2 hc
      refine bi_Tr 4 (s' := (118, [(0, .ref 77), (1, .int y1), (2, .int y2), (3, .int y3), (4, .int y4), (5, .int y5)], [.int y5, .ref 96, .int y5, .ref 96], st_mm s)) rfl ?_
      obtain ⟨hi, h⟩ := h
      refine bi_Tial rfl rfl rfl hi ?_
      refine bi_Tr 2 (s' := (121, [(0, .ref 77), (1, .int y1), (2, .int y2), (3, .int y3), (4, .int y4), (5, .int y5)], [.int ((st_g s 96 (y5).toNatClampNeg) + (1 : Int32)), .int y5, .ref 96], st_mm s)) rfl ?_
      obtain ⟨hi, h⟩ := h
      refine bi_Tias rfl rfl hi ?_
      refine bi_Tr 4 (s' := (129, [(0, .ref 77), (1, .int y1), (2, .int y2), (3, .int y3), (4, .int y4), (5, .int y5)], [.int y5, .ref 95, .int y5, .ref 95], st_mm (st_p s 96 (y5).toNatClampNeg ((st_g s 96 (y5).toNatClampNeg) + (1 : Int32))))) rfl ?_
      obtain ⟨hi, h⟩ := h
      refine bi_Tial rfl rfl rfl hi ?_
      refine bi_Tr 2 (s' := ((if y3 = 0 then 138 else 134), [(0, .ref 77), (1, .int y1), (2, .int y2), (3, .int y3), (4, .int y4), (5, .int y5)], [.int (st_g (st_p s 96 (y5).toNatClampNeg ((st_g s 96 (y5).toNatClampNeg) + (1 : Int32))) 95 (y5).toNatClampNeg), .int y5, .ref 95], st_mm (st_p s 96 (y5).toNatClampNeg ((st_g s 96 (y5).toNatClampNeg) + (1 : Int32))))) rfl (bi_Tif (fun hc => ?_) (fun hc => ?_))
      · have h := h.1 hc
        refine bi_Tr 2 (s' := (140, [(0, .ref 77), (1, .int y1), (2, .int y2), (3, .int y3), (4, .int y4), (5, .int y5)], [.int ((st_g (st_p s 96 (y5).toNatClampNeg ((st_g s 96 (y5).toNatClampNeg) + (1 : Int32))) 95 (y5).toNatClampNeg) + (0 : Int32)), .int y5, .ref 95], st_mm (st_p s 96 (y5).toNatClampNeg ((st_g s 96 (y5).toNatClampNeg) + (1 : Int32))))) rfl ?_
        obtain ⟨hi, h⟩ := h
        refine bi_Tias rfl rfl hi ?_
        refine bi_Tr 3 (s' := (145, [(0, .ref 77), (1, .int y1), (2, .int y2), (3, .int y3), (4, .int y4), (5, .int y5)], [.int y2, .int y5, .ref 77], st_mm (st_p (st_p s 96 (y5).toNatClampNeg ((st_g s 96 (y5).toNatClampNeg) + (1 : Int32))) 95 (y5).toNatClampNeg ((st_g (st_p s 96 (y5).toNatClampNeg ((st_g s 96 (y5).toNatClampNeg) + (1 : Int32))) 95 (y5).toNatClampNeg) + (0 : Int32))))) rfl ?_
        refine bi_TcI (as := [.ref 77, .int y5, .int y2]) rfl rfl ?_
        refine cI.mono h (fun r4 s4 h => ?_) (fun _ _ h => h.elim)
        refine bi_Tr 4 (s' := ((if ¬ (st_g s4 77 46) = 0 then 160 else 157), [(4, .int r4), (0, .ref 77), (1, .int y1), (2, .int y2), (3, .int y3), (5, .int y5)], [], st_mm s4)) rfl (bi_Tif (fun hc => ?_) (fun hc => ?_))
        · have h := h.1 hc
          refine bi_Tr 4 (s' := (166, [(4, .int r4), (0, .ref 77), (1, .int y1), (2, .int y2), (3, .int y3), (5, .int y5)], [.int y2, .int (2 : Int32), .ref 97], st_mm s4)) rfl ?_
          obtain ⟨hi, h⟩ := h
          refine bi_Tias rfl rfl hi ?_
          refine bi_Tr 4 (s' := (174, [(4, .int r4), (0, .ref 77), (1, .int y1), (2, .int y2), (3, .int y3), (5, .int y5)], [.int y5, .int (3 : Int32), .ref 97], st_mm (st_p s4 97 ((2 : Int32)).toNatClampNeg y2))) rfl ?_
          obtain ⟨hi, h⟩ := h
          refine bi_Tias rfl rfl hi ?_
          exact bi_Tww h rfl rfl ⟨rfl, rfl, rfl, rfl, rfl, rfl, trivial⟩
        · have h := h.2 hc
          refine bi_Tr 1 (s' := (175, [(4, .int r4), (0, .ref 77), (1, .int y1), (2, .int y2), (3, .int y3), (5, .int y5)], [], st_mm s4)) rfl ?_
          exact bi_Tww h rfl rfl ⟨rfl, rfl, rfl, rfl, rfl, rfl, trivial⟩
      · have h := h.2 hc
        refine bi_Tr 3 (s' := (140, [(0, .ref 77), (1, .int y1), (2, .int y2), (3, .int y3), (4, .int y4), (5, .int y5)], [.int ((st_g (st_p s 96 (y5).toNatClampNeg ((st_g s 96 (y5).toNatClampNeg) + (1 : Int32))) 95 (y5).toNatClampNeg) + (1 : Int32)), .int y5, .ref 95], st_mm (st_p s 96 (y5).toNatClampNeg ((st_g s 96 (y5).toNatClampNeg) + (1 : Int32))))) rfl ?_
        obtain ⟨hi, h⟩ := h
        refine bi_Tias rfl rfl hi ?_
        refine bi_Tr 3 (s' := (145, [(0, .ref 77), (1, .int y1), (2, .int y2), (3, .int y3), (4, .int y4), (5, .int y5)], [.int y2, .int y5, .ref 77], st_mm (st_p (st_p s 96 (y5).toNatClampNeg ((st_g s 96 (y5).toNatClampNeg) + (1 : Int32))) 95 (y5).toNatClampNeg ((st_g (st_p s 96 (y5).toNatClampNeg ((st_g s 96 (y5).toNatClampNeg) + (1 : Int32))) 95 (y5).toNatClampNeg) + (1 : Int32))))) rfl ?_
        refine bi_TcI (as := [.ref 77, .int y5, .int y2]) rfl rfl ?_
        refine cI.mono h (fun r5 s5 h => ?_) (fun _ _ h => h.elim)
        refine bi_Tr 4 (s' := ((if ¬ (st_g s5 77 46) = 0 then 160 else 157), [(4, .int r5), (0, .ref 77), (1, .int y1), (2, .int y2), (3, .int y3), (5, .int y5)], [], st_mm s5)) rfl (bi_Tif (fun hc => ?_) (fun hc => ?_))
        · have h := h.1 hc
          refine bi_Tr 4 (s' := (166, [(4, .int r5), (0, .ref 77), (1, .int y1), (2, .int y2), (3, .int y3), (5, .int y5)], [.int y2, .int (2 : Int32), .ref 97], st_mm s5)) rfl ?_
          obtain ⟨hi, h⟩ := h
          refine bi_Tias rfl rfl hi ?_
          refine bi_Tr 4 (s' := (174, [(4, .int r5), (0, .ref 77), (1, .int y1), (2, .int y2), (3, .int y3), (5, .int y5)], [.int y5, .int (3 : Int32), .ref 97], st_mm (st_p s5 97 ((2 : Int32)).toNatClampNeg y2))) rfl ?_
          obtain ⟨hi, h⟩ := h
          refine bi_Tias rfl rfl hi ?_
          exact bi_Tww h rfl rfl ⟨rfl, rfl, rfl, rfl, rfl, rfl, trivial⟩
        · have h := h.2 hc
          refine bi_Tr 1 (s' := (175, [(4, .int r5), (0, .ref 77), (1, .int y1), (2, .int y2), (3, .int y3), (5, .int y5)], [], st_mm s5)) rfl ?_
          exact bi_Tww h rfl rfl ⟨rfl, rfl, rfl, rfl, rfl, rfl, trivial⟩
theorem go_X12_runs_181 {X : bi_X} {d : Nat} {K : bi_St → Prop} {E : Nat → bi_St → Prop}  {s : bi_St} {y1 : Int32} {y2 : Int32} {y4 : Int32}  (h : ((y4 = 0) → at_X12_runs_56 X (d + 1) K E s ((y1 ||| (0 : Int32))) ((y2 + (1 : Int32)))) ∧ (¬ (y4 = 0) → at_X12_runs_56 X (d + 1) K E s ((y1 ||| ((1 : Int32) <<< (y2 &&& 31)))) ((y2 + (1 : Int32))))) : at_X12_runs_181 X (d + 1) K E s y1 y2 y4 := by
  show bi_T _ _ _ _ _
  refine bi_Tr 3 (s' := ((if y4 = 0 then 193 else 187), [(0, .ref 77), (1, .int y1), (2, .int y2), (4, .int y4)], [.int y1], st_mm s)) rfl (bi_Tif (fun hc => ?_) (fun hc => ?_))
  · have h := h.1 hc
    refine bi_Tr 5 (s' := (56, [(2, .int (y2 + (1 : Int32))), (1, .int (y1 ||| (0 : Int32))), (0, .ref 77), (4, .int y4)], [], st_mm s)) rfl ?_
    exact bi_Tww h rfl rfl ⟨rfl, rfl, rfl, trivial⟩
  · have h := h.2 hc
    refine bi_Tr 8 (s' := (56, [(2, .int (y2 + (1 : Int32))), (1, .int (y1 ||| ((1 : Int32) <<< (y2 &&& 31)))), (0, .ref 77), (4, .int y4)], [], st_mm s)) rfl ?_
    exact bi_Tww h rfl rfl ⟨rfl, rfl, rfl, trivial⟩
theorem go_X12_runs_175 {X : bi_X} {d : Nat} {K : bi_St → Prop} {E : Nat → bi_St → Prop}  {s : bi_St} {y1 : Int32} {y2 : Int32} {y3 : Int32} {y4 : Int32} {y5 : Int32}  (h : at_X12_runs_97 X (d + 1) K E s (y1) (y2) (y3) (y4) ((y5 + (1 : Int32)))) : at_X12_runs_175 X (d + 1) K E s y1 y2 y3 y4 y5 := by
  show bi_T _ _ _ _ _
  refine bi_Tr 2 (s' := (97, [(5, .int (y5 + (1 : Int32))), (0, .ref 77), (1, .int y1), (2, .int y2), (3, .int y3), (4, .int y4)], [], st_mm s)) rfl ?_
  exact bi_Tww h rfl rfl ⟨rfl, rfl, rfl, rfl, rfl, rfl, trivial⟩
/-- PolicyRowsModel.runs()V -/
theorem en_X12_runs {X : bi_X} {d : Nat} {K : bi_St → Prop} {E : Nat → bi_St → Prop} {s : bi_St}   (h : bi_in (2 : Int32) 8 = true ∧ (bi_in (3 : Int32) 8 = true ∧ (at_X12_runs_28 X (d + 1) K E (st_p (st_p (st_p (st_p s 77 44 (0 : Int32)) 77 45 (0 : Int32)) 97 ((2 : Int32)).toNatClampNeg (-1 : Int32)) 97 ((3 : Int32)).toNatClampNeg (-1 : Int32)) ((0 : Int32)) ((0 : Int32))))) : cV X (d + 1) 236 [.ref 77] s K E := by
  show bi_T _ _ _ _ _
  refine bi_Tr 12 (s' := (18, [(1, .int (0 : Int32)), (0, .ref 77)], [.int (-1 : Int32), .int (2 : Int32), .ref 97], st_mm (st_p (st_p s 77 44 (0 : Int32)) 77 45 (0 : Int32)))) rfl ?_
  obtain ⟨hi, h⟩ := h
  refine bi_Tias rfl rfl hi ?_
  refine bi_Tr 4 (s' := (25, [(1, .int (0 : Int32)), (0, .ref 77)], [.int (-1 : Int32), .int (3 : Int32), .ref 97], st_mm (st_p (st_p (st_p s 77 44 (0 : Int32)) 77 45 (0 : Int32)) 97 ((2 : Int32)).toNatClampNeg (-1 : Int32)))) rfl ?_
  obtain ⟨hi, h⟩ := h
  refine bi_Tias rfl rfl hi ?_
  refine bi_Tr 2 (s' := (28, [(2, .int (0 : Int32)), (1, .int (0 : Int32)), (0, .ref 77)], [], st_mm (st_p (st_p (st_p (st_p s 77 44 (0 : Int32)) 77 45 (0 : Int32)) 97 ((2 : Int32)).toNatClampNeg (-1 : Int32)) 97 ((3 : Int32)).toNatClampNeg (-1 : Int32)))) rfl ?_
  exact bi_Tww h rfl rfl ⟨rfl, rfl, rfl, trivial⟩
def at_X12_query_64 (X : bi_X) (d : Nat) (K : Int32 → bi_St → Prop) (E : Nat → bi_St → Prop) (s : bi_St)  : Prop := bi_T X d 237 (64, [], [], st_mm s) (st_RI K E)
def at_X12_query_93 (X : bi_X) (d : Nat) (K : Int32 → bi_St → Prop) (E : Nat → bi_St → Prop) (s : bi_St) (y1 : Int32) (y2 : Int32) (y4 : Int32) (y5 : Int32) : Prop := bi_T X d 237 (93, [(0, .ref 77), (1, .int y1), (2, .int y2), (4, .int y4), (5, .int y5)], [], st_mm s) (st_RI K E)
def at_X12_query_238 (X : bi_X) (d : Nat) (K : Int32 → bi_St → Prop) (E : Nat → bi_St → Prop) (s : bi_St) (y1 : Int32) (y2 : Int32) (y4 : Int32) : Prop := bi_T X d 237 (238, [(0, .ref 77), (1, .int y1), (2, .int y2), (4, .int y4)], [], st_mm s) (st_RI K E)
def at_X12_query_145 (X : bi_X) (d : Nat) (K : Int32 → bi_St → Prop) (E : Nat → bi_St → Prop) (s : bi_St) (y1 : Int32) (y2 : Int32) (y4 : Int32) (y5 : Int32) : Prop := bi_T X d 237 (145, [(0, .ref 77), (1, .int y1), (2, .int y2), (4, .int y4), (5, .int y5)], [], st_mm s) (st_RI K E)
def at_X12_query_257 (X : bi_X) (d : Nat) (K : Int32 → bi_St → Prop) (E : Nat → bi_St → Prop) (s : bi_St) (y1 : Int32) (y2 : Int32) (y4 : Int32) : Prop := bi_T X d 237 (257, [(0, .ref 77), (1, .int y1), (2, .int y2), (4, .int y4)], [], st_mm s) (st_RI K E)
def at_X12_query_223 (X : bi_X) (d : Nat) (K : Int32 → bi_St → Prop) (E : Nat → bi_St → Prop) (s : bi_St) (y1 : Int32) (y2 : Int32) (y4 : Int32) : Prop := bi_T X d 237 (223, [(0, .ref 77), (1, .int y1), (2, .int y2), (4, .int y4)], [], st_mm s) (st_RI K E)
theorem go_X12_query_64 {X : bi_X} {d : Nat} {K : Int32 → bi_St → Prop} {E : Nat → bi_St → Prop}  {s : bi_St}   (h : K (0 : Int32) s) : at_X12_query_64 X (d + 1) K E s  := by
  show bi_T _ _ _ _ _
  refine bi_Tr 1 (s' := (65, [], [.int (0 : Int32)], st_mm s)) rfl ?_
  exact bi_Tv rfl rfl (Or.inl ⟨_, _, rfl, h⟩)
theorem go_X12_query_93 {X : bi_X} {d : Nat} {K : Int32 → bi_St → Prop} {E : Nat → bi_St → Prop}  {s : bi_St} {y1 : Int32} {y2 : Int32} {y4 : Int32} {y5 : Int32}  (h : ((y5 = 0) → at_X12_query_238 X (d + 1) K E s (y1) (y2) (y4)) ∧ (¬ (y5 = 0) → cI X d 177 [.ref 77] s (fun (r23 : Int32) (s23 : bi_St) => ((r23 = 0) → at_X12_query_238 X (d + 1) K E s23 (y1) (y2) (y4)) ∧ (¬ (r23 = 0) → ((¬ y4 = (5 : Int32)) → at_X12_query_145 X (d + 1) K E s23 (y1) (y2) (y4) (y5)) ∧ (¬ (¬ y4 = (5 : Int32)) → (((st_g s23 77 8) = (2 : Int32)) → cV X d 176 [.ref 77, .int (2 : Int32)] s23 (fun (s24 : bi_St) => at_X12_query_145 X (d + 1) K E s24 (y1) (y2) (y4) (y5)) (fun _ _ => False)) ∧ (¬ ((st_g s23 77 8) = (2 : Int32)) → (((st_g s23 77 8) = (1 : Int32)) → cV X d 176 [.ref 77, .int (2 : Int32)] s23 (fun (s25 : bi_St) => at_X12_query_145 X (d + 1) K E s25 (y1) (y2) (y4) (y5)) (fun _ _ => False)) ∧ (¬ ((st_g s23 77 8) = (1 : Int32)) → cI X d 178 [.ref 77, .int (40 : Int32)] s23 (fun (r26 : Int32) (s26 : bi_St) => ((r26 = 0) → cV X d 176 [.ref 77, .int (1 : Int32)] s26 (fun (s27 : bi_St) => at_X12_query_145 X (d + 1) K E s27 (y1) (y2) (y4) (y5)) (fun _ _ => False)) ∧ (¬ (r26 = 0) → cV X d 176 [.ref 77, .int (2 : Int32)] s26 (fun (s28 : bi_St) => at_X12_query_145 X (d + 1) K E s28 (y1) (y2) (y4) (y5)) (fun _ _ => False))) (fun _ _ => False)))))) (fun _ _ => False))) : at_X12_query_93 X (d + 1) K E s y1 y2 y4 y5 := by
  show bi_T _ _ _ _ _
  refine bi_Tr 2 (s' := ((if y5 = 0 then 238 else 98), [(0, .ref 77), (1, .int y1), (2, .int y2), (4, .int y4), (5, .int y5)], [], st_mm s)) rfl (bi_Tif (fun hc => ?_) (fun hc => ?_))
  · have h := h.1 hc
    exact bi_Tww h rfl rfl ⟨rfl, rfl, rfl, rfl, trivial⟩
  · have h := h.2 hc
    refine bi_Tr 1 (s' := (99, [(0, .ref 77), (1, .int y1), (2, .int y2), (4, .int y4), (5, .int y5)], [.ref 77], st_mm s)) rfl ?_
    refine bi_TcI (as := [.ref 77]) rfl rfl ?_
    refine cI.mono h (fun r23 s23 h => ?_) (fun _ _ h => h.elim)
    refine bi_Tr 1 (s' := ((if r23 = 0 then 238 else 105), [(0, .ref 77), (1, .int y1), (2, .int y2), (4, .int y4), (5, .int y5)], [], st_mm s23)) rfl (bi_Tif (fun hc => ?_) (fun hc => ?_))
    · have h := h.1 hc
      exact bi_Tww h rfl rfl ⟨rfl, rfl, rfl, rfl, trivial⟩
    · have h := h.2 hc
      refine bi_Tr 3 (s' := ((if ¬ y4 = (5 : Int32) then 145 else 111), [(0, .ref 77), (1, .int y1), (2, .int y2), (4, .int y4), (5, .int y5)], [], st_mm s23)) rfl (bi_Tif (fun hc => ?_) (fun hc => ?_))
      · have h := h.1 hc
        exact bi_Tww h rfl rfl ⟨rfl, rfl, rfl, rfl, rfl, trivial⟩
      · have h := h.2 hc
        refine bi_Tr 5 (s' := ((if (st_g s23 77 8) = (2 : Int32) then 137 else 120), [(0, .ref 77), (1, .int y1), (2, .int y2), (4, .int y4), (5, .int y5)], [.ref 77], st_mm s23)) rfl (bi_Tif (fun hc => ?_) (fun hc => ?_))
        · have h := h.1 hc
          refine bi_Tr 2 (s' := (142, [(0, .ref 77), (1, .int y1), (2, .int y2), (4, .int y4), (5, .int y5)], [.int (2 : Int32), .ref 77], st_mm s23)) rfl ?_
          refine bi_TcV (as := [.ref 77, .int (2 : Int32)]) rfl rfl ?_
          refine cV.mono h (fun s24 h => ?_) (fun _ _ h => h.elim)
          exact bi_Tww h rfl rfl ⟨rfl, rfl, rfl, rfl, rfl, trivial⟩
        · have h := h.2 hc
          refine bi_Tr 4 (s' := ((if (st_g s23 77 8) = (1 : Int32) then 137 else 128), [(0, .ref 77), (1, .int y1), (2, .int y2), (4, .int y4), (5, .int y5)], [.ref 77], st_mm s23)) rfl (bi_Tif (fun hc => ?_) (fun hc => ?_))
          · have h := h.1 hc
            refine bi_Tr 2 (s' := (142, [(0, .ref 77), (1, .int y1), (2, .int y2), (4, .int y4), (5, .int y5)], [.int (2 : Int32), .ref 77], st_mm s23)) rfl ?_
            refine bi_TcV (as := [.ref 77, .int (2 : Int32)]) rfl rfl ?_
            refine cV.mono h (fun s25 h => ?_) (fun _ _ h => h.elim)
            exact bi_Tww h rfl rfl ⟨rfl, rfl, rfl, rfl, rfl, trivial⟩
          · have h := h.2 hc
            refine bi_Tr 2 (s' := (131, [(0, .ref 77), (1, .int y1), (2, .int y2), (4, .int y4), (5, .int y5)], [.int (40 : Int32), .ref 77, .ref 77], st_mm s23)) rfl ?_
            refine bi_TcI (as := [.ref 77, .int (40 : Int32)]) rfl rfl ?_
            refine cI.mono h (fun r26 s26 h => ?_) (fun _ _ h => h.elim)
            refine bi_Tr 1 (s' := ((if r26 = 0 then 141 else 137), [(0, .ref 77), (1, .int y1), (2, .int y2), (4, .int y4), (5, .int y5)], [.ref 77], st_mm s26)) rfl (bi_Tif (fun hc => ?_) (fun hc => ?_))
            · have h := h.1 hc
              refine bi_Tr 1 (s' := (142, [(0, .ref 77), (1, .int y1), (2, .int y2), (4, .int y4), (5, .int y5)], [.int (1 : Int32), .ref 77], st_mm s26)) rfl ?_
              refine bi_TcV (as := [.ref 77, .int (1 : Int32)]) rfl rfl ?_
              refine cV.mono h (fun s27 h => ?_) (fun _ _ h => h.elim)
              exact bi_Tww h rfl rfl ⟨rfl, rfl, rfl, rfl, rfl, trivial⟩
            · have h := h.2 hc
              refine bi_Tr 2 (s' := (142, [(0, .ref 77), (1, .int y1), (2, .int y2), (4, .int y4), (5, .int y5)], [.int (2 : Int32), .ref 77], st_mm s26)) rfl ?_
              refine bi_TcV (as := [.ref 77, .int (2 : Int32)]) rfl rfl ?_
              refine cV.mono h (fun s28 h => ?_) (fun _ _ h => h.elim)
              exact bi_Tww h rfl rfl ⟨rfl, rfl, rfl, rfl, rfl, trivial⟩
theorem go_X12_query_238 {X : bi_X} {d : Nat} {K : Int32 → bi_St → Prop} {E : Nat → bi_St → Prop}  {s : bi_St} {y1 : Int32} {y2 : Int32} {y4 : Int32}  (h : cI X d 177 [.ref 77] s (fun (r29 : Int32) (s29 : bi_St) => ((r29 = 0) → at_X12_query_257 X (d + 1) K E s29 (y1) (y2) (y4)) ∧ (¬ (r29 = 0) → (((st_g s29 77 8) = 0) → at_X12_query_257 X (d + 1) K E s29 (y1) (y2) (y4)) ∧ (¬ ((st_g s29 77 8) = 0) → cV X d 176 [.ref 77, .int (1 : Int32)] s29 (fun (s30 : bi_St) => at_X12_query_257 X (d + 1) K E s30 (y1) (y2) (y4)) (fun _ _ => False)))) (fun _ _ => False)) : at_X12_query_238 X (d + 1) K E s y1 y2 y4 := by
  show bi_T _ _ _ _ _
  refine bi_Tr 1 (s' := (239, [(0, .ref 77), (1, .int y1), (2, .int y2), (4, .int y4)], [.ref 77], st_mm s)) rfl ?_
  refine bi_TcI (as := [.ref 77]) rfl rfl ?_
  refine cI.mono h (fun r29 s29 h => ?_) (fun _ _ h => h.elim)
  refine bi_Tr 1 (s' := ((if r29 = 0 then 257 else 245), [(0, .ref 77), (1, .int y1), (2, .int y2), (4, .int y4)], [], st_mm s29)) rfl (bi_Tif (fun hc => ?_) (fun hc => ?_))
  · have h := h.1 hc
    exact bi_Tww h rfl rfl ⟨rfl, rfl, rfl, rfl, trivial⟩
  · have h := h.2 hc
    refine bi_Tr 3 (s' := ((if (st_g s29 77 8) = 0 then 257 else 252), [(0, .ref 77), (1, .int y1), (2, .int y2), (4, .int y4)], [], st_mm s29)) rfl (bi_Tif (fun hc => ?_) (fun hc => ?_))
    · have h := h.1 hc
      exact bi_Tww h rfl rfl ⟨rfl, rfl, rfl, rfl, trivial⟩
    · have h := h.2 hc
      refine bi_Tr 2 (s' := (254, [(0, .ref 77), (1, .int y1), (2, .int y2), (4, .int y4)], [.int (1 : Int32), .ref 77], st_mm s29)) rfl ?_
      refine bi_TcV (as := [.ref 77, .int (1 : Int32)]) rfl rfl ?_
      refine cV.mono h (fun s30 h => ?_) (fun _ _ h => h.elim)
      exact bi_Tww h rfl rfl ⟨rfl, rfl, rfl, rfl, trivial⟩
theorem go_X12_query_145 {X : bi_X} {d : Nat} {K : Int32 → bi_St → Prop} {E : Nat → bi_St → Prop}  {s : bi_St} {y1 : Int32} {y2 : Int32} {y4 : Int32} {y5 : Int32}  (h : cI X d 177 [.ref 77] s (fun (r31 : Int32) (s31 : bi_St) => ((¬ r31 = 0) → bi_in y4 5 = true ∧ (cV X d 194 [.ref 77] (st_p s31 103 (y4).toNatClampNeg (st_g s31 77 19)) (fun (s32 : bi_St) => bi_in y4 5 = true ∧ ((((st_g (st_p s32 104 (y4).toNatClampNeg (st_g s32 77 22)) 77 23) = 0) → bi_in y4 5 = true ∧ (cI X d 177 [.ref 77] (st_p (st_p s32 104 (y4).toNatClampNeg (st_g s32 77 22)) 105 (y4).toNatClampNeg (0 : Int32)) (fun (r33 : Int32) (s33 : bi_St) => ((r33 = 0) → at_X12_query_223 X (d + 1) K E s33 (y1) (y2) ((y4 + (1 : Int32)))) ∧ (¬ (r33 = 0) → cI X d 178 [.ref 77, .int (44 : Int32)] s33 (fun (r34 : Int32) (s34 : bi_St) => ((r34 = 0) → at_X12_query_223 X (d + 1) K E s34 (y1) (y2) ((y4 + (1 : Int32)))) ∧ (¬ (r34 = 0) → (((1 : Int32) = 0) → at_X12_query_93 X (d + 1) K E s34 (y1) (y2) ((y4 + (1 : Int32))) ((1 : Int32))) ∧ (¬ ((1 : Int32) = 0) → cV X d 172 [.ref 77] s34 (fun (s35 : bi_St) => at_X12_query_93 X (d + 1) K E s35 (y1) (y2) ((y4 + (1 : Int32))) ((1 : Int32))) (fun _ _ => False)))) (fun _ _ => False))) (fun _ _ => False))) ∧ (¬ ((st_g (st_p s32 104 (y4).toNatClampNeg (st_g s32 77 22)) 77 23) = 0) → bi_in y4 5 = true ∧ (cI X d 177 [.ref 77] (st_p (st_p s32 104 (y4).toNatClampNeg (st_g s32 77 22)) 105 (y4).toNatClampNeg (1 : Int32)) (fun (r36 : Int32) (s36 : bi_St) => ((r36 = 0) → at_X12_query_223 X (d + 1) K E s36 (y1) (y2) ((y4 + (1 : Int32)))) ∧ (¬ (r36 = 0) → cI X d 178 [.ref 77, .int (44 : Int32)] s36 (fun (r37 : Int32) (s37 : bi_St) => ((r37 = 0) → at_X12_query_223 X (d + 1) K E s37 (y1) (y2) ((y4 + (1 : Int32)))) ∧ (¬ (r37 = 0) → (((1 : Int32) = 0) → at_X12_query_93 X (d + 1) K E s37 (y1) (y2) ((y4 + (1 : Int32))) ((1 : Int32))) ∧ (¬ ((1 : Int32) = 0) → cV X d 172 [.ref 77] s37 (fun (s38 : bi_St) => at_X12_query_93 X (d + 1) K E s38 (y1) (y2) ((y4 + (1 : Int32))) ((1 : Int32))) (fun _ _ => False)))) (fun _ _ => False))) (fun _ _ => False))))) (fun _ _ => False))) ∧ (¬ (¬ r31 = 0) → at_X12_query_93 X (d + 1) K E s31 (y1) (y2) (y4) (y5))) (fun _ _ => False)) : at_X12_query_145 X (d + 1) K E s y1 y2 y4 y5 := by
  show bi_T _ _ _ _ _
  refine bi_Tr 1 (s' := (146, [(0, .ref 77), (1, .int y1), (2, .int y2), (4, .int y4), (5, .int y5)], [.ref 77], st_mm s)) rfl ?_
  refine bi_TcI (as := [.ref 77]) rfl rfl ?_
  refine cI.mono h (fun r31 s31 h => ?_) (fun _ _ h => h.elim)
  refine bi_Tr 1 (s' := ((if ¬ r31 = 0 then 155 else 152), [(0, .ref 77), (1, .int y1), (2, .int y2), (4, .int y4), (5, .int y5)], [], st_mm s31)) rfl (bi_Tif (fun hc => ?_) (fun hc => ?_))
  · have h := h.1 hc
    refine bi_Tr 5 (s' := (165, [(0, .ref 77), (1, .int y1), (2, .int y2), (4, .int y4), (5, .int y5)], [.int (st_g s31 77 19), .int y4, .ref 103], st_mm s31)) rfl ?_
    obtain ⟨hi, h⟩ := h
    refine bi_Tias rfl rfl hi ?_
    refine bi_Tr 1 (s' := (167, [(0, .ref 77), (1, .int y1), (2, .int y2), (4, .int y4), (5, .int y5)], [.ref 77], st_mm (st_p s31 103 (y4).toNatClampNeg (st_g s31 77 19)))) rfl ?_
    refine bi_TcV (as := [.ref 77]) rfl rfl ?_
    refine cV.mono h (fun s32 h => ?_) (fun _ _ h => h.elim)
    refine bi_Tr 5 (s' := (180, [(0, .ref 77), (1, .int y1), (2, .int y2), (4, .int y4), (5, .int y5)], [.int (st_g s32 77 22), .int y4, .ref 104], st_mm s32)) rfl ?_
    obtain ⟨hi, h⟩ := h
    refine bi_Tias rfl rfl hi ?_
    refine bi_Tr 6 (s' := ((if (st_g (st_p s32 104 (y4).toNatClampNeg (st_g s32 77 22)) 77 23) = 0 then 198 else 194), [(0, .ref 77), (1, .int y1), (2, .int y2), (4, .int y4), (5, .int y5)], [.int y4, .ref 105], st_mm (st_p s32 104 (y4).toNatClampNeg (st_g s32 77 22)))) rfl (bi_Tif (fun hc => ?_) (fun hc => ?_))
    · have h := h.1 hc
      refine bi_Tr 1 (s' := (199, [(0, .ref 77), (1, .int y1), (2, .int y2), (4, .int y4), (5, .int y5)], [.int (0 : Int32), .int y4, .ref 105], st_mm (st_p s32 104 (y4).toNatClampNeg (st_g s32 77 22)))) rfl ?_
      obtain ⟨hi, h⟩ := h
      refine bi_Tias rfl rfl hi ?_
      refine bi_Tr 2 (s' := (204, [(4, .int (y4 + (1 : Int32))), (0, .ref 77), (1, .int y1), (2, .int y2), (5, .int y5)], [.ref 77], st_mm (st_p (st_p s32 104 (y4).toNatClampNeg (st_g s32 77 22)) 105 (y4).toNatClampNeg (0 : Int32)))) rfl ?_
      refine bi_TcI (as := [.ref 77]) rfl rfl ?_
      refine cI.mono h (fun r33 s33 h => ?_) (fun _ _ h => h.elim)
      refine bi_Tr 1 (s' := ((if r33 = 0 then 223 else 210), [(4, .int (y4 + (1 : Int32))), (0, .ref 77), (1, .int y1), (2, .int y2), (5, .int y5)], [], st_mm s33)) rfl (bi_Tif (fun hc => ?_) (fun hc => ?_))
      · have h := h.1 hc
        exact bi_Tww h rfl rfl ⟨rfl, rfl, rfl, rfl, trivial⟩
      · have h := h.2 hc
        refine bi_Tr 2 (s' := (213, [(4, .int (y4 + (1 : Int32))), (0, .ref 77), (1, .int y1), (2, .int y2), (5, .int y5)], [.int (44 : Int32), .ref 77], st_mm s33)) rfl ?_
        refine bi_TcI (as := [.ref 77, .int (44 : Int32)]) rfl rfl ?_
        refine cI.mono h (fun r34 s34 h => ?_) (fun _ _ h => h.elim)
        refine bi_Tr 1 (s' := ((if r34 = 0 then 223 else 219), [(4, .int (y4 + (1 : Int32))), (0, .ref 77), (1, .int y1), (2, .int y2), (5, .int y5)], [], st_mm s34)) rfl (bi_Tif (fun hc => ?_) (fun hc => ?_))
        · have h := h.1 hc
          exact bi_Tww h rfl rfl ⟨rfl, rfl, rfl, rfl, trivial⟩
        · have h := h.2 hc
          refine bi_Tr 5 (s' := ((if (1 : Int32) = 0 then 93 else 231), [(5, .int (1 : Int32)), (4, .int (y4 + (1 : Int32))), (0, .ref 77), (1, .int y1), (2, .int y2)], [], st_mm s34)) rfl (bi_Tif (fun hc => ?_) (fun hc => ?_))
          · have h := h.1 hc
            exact bi_Tww h rfl rfl ⟨rfl, rfl, rfl, rfl, rfl, trivial⟩
          · have h := h.2 hc
            refine bi_Tr 1 (s' := (232, [(5, .int (1 : Int32)), (4, .int (y4 + (1 : Int32))), (0, .ref 77), (1, .int y1), (2, .int y2)], [.ref 77], st_mm s34)) rfl ?_
            refine bi_TcV (as := [.ref 77]) rfl rfl ?_
            refine cV.mono h (fun s35 h => ?_) (fun _ _ h => h.elim)
            refine bi_Tr 1 (s' := (93, [(5, .int (1 : Int32)), (4, .int (y4 + (1 : Int32))), (0, .ref 77), (1, .int y1), (2, .int y2)], [], st_mm s35)) rfl ?_
            exact bi_Tww h rfl rfl ⟨rfl, rfl, rfl, rfl, rfl, trivial⟩
    · have h := h.2 hc
      refine bi_Tr 2 (s' := (199, [(0, .ref 77), (1, .int y1), (2, .int y2), (4, .int y4), (5, .int y5)], [.int (1 : Int32), .int y4, .ref 105], st_mm (st_p s32 104 (y4).toNatClampNeg (st_g s32 77 22)))) rfl ?_
      obtain ⟨hi, h⟩ := h
      refine bi_Tias rfl rfl hi ?_
      refine bi_Tr 2 (s' := (204, [(4, .int (y4 + (1 : Int32))), (0, .ref 77), (1, .int y1), (2, .int y2), (5, .int y5)], [.ref 77], st_mm (st_p (st_p s32 104 (y4).toNatClampNeg (st_g s32 77 22)) 105 (y4).toNatClampNeg (1 : Int32)))) rfl ?_
      refine bi_TcI (as := [.ref 77]) rfl rfl ?_
      refine cI.mono h (fun r36 s36 h => ?_) (fun _ _ h => h.elim)
      refine bi_Tr 1 (s' := ((if r36 = 0 then 223 else 210), [(4, .int (y4 + (1 : Int32))), (0, .ref 77), (1, .int y1), (2, .int y2), (5, .int y5)], [], st_mm s36)) rfl (bi_Tif (fun hc => ?_) (fun hc => ?_))
      · have h := h.1 hc
        exact bi_Tww h rfl rfl ⟨rfl, rfl, rfl, rfl, trivial⟩
      · have h := h.2 hc
        refine bi_Tr 2 (s' := (213, [(4, .int (y4 + (1 : Int32))), (0, .ref 77), (1, .int y1), (2, .int y2), (5, .int y5)], [.int (44 : Int32), .ref 77], st_mm s36)) rfl ?_
        refine bi_TcI (as := [.ref 77, .int (44 : Int32)]) rfl rfl ?_
        refine cI.mono h (fun r37 s37 h => ?_) (fun _ _ h => h.elim)
        refine bi_Tr 1 (s' := ((if r37 = 0 then 223 else 219), [(4, .int (y4 + (1 : Int32))), (0, .ref 77), (1, .int y1), (2, .int y2), (5, .int y5)], [], st_mm s37)) rfl (bi_Tif (fun hc => ?_) (fun hc => ?_))
        · have h := h.1 hc
          exact bi_Tww h rfl rfl ⟨rfl, rfl, rfl, rfl, trivial⟩
        · have h := h.2 hc
          refine bi_Tr 5 (s' := ((if (1 : Int32) = 0 then 93 else 231), [(5, .int (1 : Int32)), (4, .int (y4 + (1 : Int32))), (0, .ref 77), (1, .int y1), (2, .int y2)], [], st_mm s37)) rfl (bi_Tif (fun hc => ?_) (fun hc => ?_))
          · have h := h.1 hc
            exact bi_Tww h rfl rfl ⟨rfl, rfl, rfl, rfl, rfl, trivial⟩
          · have h := h.2 hc
            refine bi_Tr 1 (s' := (232, [(5, .int (1 : Int32)), (4, .int (y4 + (1 : Int32))), (0, .ref 77), (1, .int y1), (2, .int y2)], [.ref 77], st_mm s37)) rfl ?_
            refine bi_TcV (as := [.ref 77]) rfl rfl ?_
            refine cV.mono h (fun s38 h => ?_) (fun _ _ h => h.elim)
            refine bi_Tr 1 (s' := (93, [(5, .int (1 : Int32)), (4, .int (y4 + (1 : Int32))), (0, .ref 77), (1, .int y1), (2, .int y2)], [], st_mm s38)) rfl ?_
            exact bi_Tww h rfl rfl ⟨rfl, rfl, rfl, rfl, rfl, trivial⟩
  · have h := h.2 hc
    refine bi_Tr 1 (s' := (93, [(0, .ref 77), (1, .int y1), (2, .int y2), (4, .int y4), (5, .int y5)], [], st_mm s31)) rfl ?_
    exact bi_Tww h rfl rfl ⟨rfl, rfl, rfl, rfl, rfl, trivial⟩
theorem go_X12_query_257 {X : bi_X} {d : Nat} {K : Int32 → bi_St → Prop} {E : Nat → bi_St → Prop}  {s : bi_St} {y1 : Int32} {y2 : Int32} {y4 : Int32}  (h : cI X d 177 [.ref 77] s (fun (r39 : Int32) (s39 : bi_St) => ((¬ r39 = 0) → cV X d 165 [.ref 77, .ref 80, .ref 88] s39 (fun (s40 : bi_St) => cV X d 165 [.ref 77, .ref 103, .ref 98] s40 (fun (s41 : bi_St) => cV X d 165 [.ref 77, .ref 104, .ref 99] s41 (fun (s42 : bi_St) => cV X d 165 [.ref 77, .ref 105, .ref 100] s42 (fun (s43 : bi_St) => cV X d 232 [.ref 77, .int y1, .int y2, .int y4] (st_p s43 77 48 (1 : Int32)) (fun (s44 : bi_St) => cV X d 234 [.ref 77] s44 (fun (s45 : bi_St) => cV X d 236 [.ref 77] s45 (fun (s46 : bi_St) => K (0 : Int32) s46) (fun _ _ => False)) (fun _ _ => False)) (fun _ _ => False)) (fun _ _ => False)) (fun _ _ => False)) (fun _ _ => False)) (fun _ _ => False)) ∧ (¬ (¬ r39 = 0) → bi_in (0 : Int32) 3 = true ∧ (bi_in (0 : Int32) 3 = true ∧ (K (st_g (st_p s39 79 ((0 : Int32)).toNatClampNeg ((st_g s39 79 ((0 : Int32)).toNatClampNeg) + (1 : Int32))) 77 3) (st_p s39 79 ((0 : Int32)).toNatClampNeg ((st_g s39 79 ((0 : Int32)).toNatClampNeg) + (1 : Int32))))))) (fun _ _ => False)) : at_X12_query_257 X (d + 1) K E s y1 y2 y4 := by
  show bi_T _ _ _ _ _
  refine bi_Tr 1 (s' := (258, [(0, .ref 77), (1, .int y1), (2, .int y2), (4, .int y4)], [.ref 77], st_mm s)) rfl ?_
  refine bi_TcI (as := [.ref 77]) rfl rfl ?_
  refine cI.mono h (fun r39 s39 h => ?_) (fun _ _ h => h.elim)
  refine bi_Tr 1 (s' := ((if ¬ r39 = 0 then 279 else 264), [(0, .ref 77), (1, .int y1), (2, .int y2), (4, .int y4)], [], st_mm s39)) rfl (bi_Tif (fun hc => ?_) (fun hc => ?_))
  · have h := h.1 hc
    refine bi_Tr 5 (s' := (288, [(0, .ref 77), (1, .int y1), (2, .int y2), (4, .int y4)], [.ref 88, .ref 80, .ref 77], st_mm s39)) rfl ?_
    refine bi_TcV (as := [.ref 77, .ref 80, .ref 88]) rfl rfl ?_
    refine cV.mono h (fun s40 h => ?_) (fun _ _ h => h.elim)
    refine bi_Tr 5 (s' := (300, [(0, .ref 77), (1, .int y1), (2, .int y2), (4, .int y4)], [.ref 98, .ref 103, .ref 77], st_mm s40)) rfl ?_
    refine bi_TcV (as := [.ref 77, .ref 103, .ref 98]) rfl rfl ?_
    refine cV.mono h (fun s41 h => ?_) (fun _ _ h => h.elim)
    refine bi_Tr 5 (s' := (312, [(0, .ref 77), (1, .int y1), (2, .int y2), (4, .int y4)], [.ref 99, .ref 104, .ref 77], st_mm s41)) rfl ?_
    refine bi_TcV (as := [.ref 77, .ref 104, .ref 99]) rfl rfl ?_
    refine cV.mono h (fun s42 h => ?_) (fun _ _ h => h.elim)
    refine bi_Tr 5 (s' := (324, [(0, .ref 77), (1, .int y1), (2, .int y2), (4, .int y4)], [.ref 100, .ref 105, .ref 77], st_mm s42)) rfl ?_
    refine bi_TcV (as := [.ref 77, .ref 105, .ref 100]) rfl rfl ?_
    refine cV.mono h (fun s43 h => ?_) (fun _ _ h => h.elim)
    refine bi_Tr 2 (s' := (329, [(0, .ref 77), (1, .int y1), (2, .int y2), (4, .int y4)], [.int (1 : Int32), .ref 77], st_mm s43)) rfl ?_
    refine bi_Tpz rfl rfl rfl rfl rfl rfl ?_
    refine bi_Tr 4 (s' := (337, [(0, .ref 77), (1, .int y1), (2, .int y2), (4, .int y4)], [.int y4, .int y2, .int y1, .ref 77], st_mm (st_p s43 77 48 (1 : Int32)))) rfl ?_
    refine bi_TcV (as := [.ref 77, .int y1, .int y2, .int y4]) rfl rfl ?_
    refine cV.mono h (fun s44 h => ?_) (fun _ _ h => h.elim)
    refine bi_Tr 1 (s' := (341, [(0, .ref 77), (1, .int y1), (2, .int y2), (4, .int y4)], [.ref 77], st_mm s44)) rfl ?_
    refine bi_TcV (as := [.ref 77]) rfl rfl ?_
    refine cV.mono h (fun s45 h => ?_) (fun _ _ h => h.elim)
    refine bi_Tr 1 (s' := (345, [(0, .ref 77), (1, .int y1), (2, .int y2), (4, .int y4)], [.ref 77], st_mm s45)) rfl ?_
    refine bi_TcV (as := [.ref 77]) rfl rfl ?_
    refine cV.mono h (fun s46 h => ?_) (fun _ _ h => h.elim)
    refine bi_Tr 1 (s' := (349, [(0, .ref 77), (1, .int y1), (2, .int y2), (4, .int y4)], [.int (0 : Int32)], st_mm s46)) rfl ?_
    exact bi_Tv rfl rfl (Or.inl ⟨_, _, rfl, h⟩)
  · have h := h.2 hc
    refine bi_Tr 4 (s' := (270, [(0, .ref 77), (1, .int y1), (2, .int y2), (4, .int y4)], [.int (0 : Int32), .ref 79, .int (0 : Int32), .ref 79], st_mm s39)) rfl ?_
    obtain ⟨hi, h⟩ := h
    refine bi_Tial rfl rfl rfl hi ?_
    refine bi_Tr 2 (s' := (273, [(0, .ref 77), (1, .int y1), (2, .int y2), (4, .int y4)], [.int ((st_g s39 79 ((0 : Int32)).toNatClampNeg) + (1 : Int32)), .int (0 : Int32), .ref 79], st_mm s39)) rfl ?_
    obtain ⟨hi, h⟩ := h
    refine bi_Tias rfl rfl hi ?_
    refine bi_Tr 2 (s' := (278, [(0, .ref 77), (1, .int y1), (2, .int y2), (4, .int y4)], [.int (st_g (st_p s39 79 ((0 : Int32)).toNatClampNeg ((st_g s39 79 ((0 : Int32)).toNatClampNeg) + (1 : Int32))) 77 3)], st_mm (st_p s39 79 ((0 : Int32)).toNatClampNeg ((st_g s39 79 ((0 : Int32)).toNatClampNeg) + (1 : Int32))))) rfl ?_
    exact bi_Tv rfl rfl (Or.inl ⟨_, _, rfl, h⟩)
theorem go_X12_query_223 {X : bi_X} {d : Nat} {K : Int32 → bi_St → Prop} {E : Nat → bi_St → Prop}  {s : bi_St} {y1 : Int32} {y2 : Int32} {y4 : Int32}  (h : (((0 : Int32) = 0) → at_X12_query_93 X (d + 1) K E s (y1) (y2) (y4) ((0 : Int32))) ∧ (¬ ((0 : Int32) = 0) → cV X d 172 [.ref 77] s (fun (s47 : bi_St) => at_X12_query_93 X (d + 1) K E s47 (y1) (y2) (y4) ((0 : Int32))) (fun _ _ => False))) : at_X12_query_223 X (d + 1) K E s y1 y2 y4 := by
  show bi_T _ _ _ _ _
  refine bi_Tr 4 (s' := ((if (0 : Int32) = 0 then 93 else 231), [(5, .int (0 : Int32)), (0, .ref 77), (1, .int y1), (2, .int y2), (4, .int y4)], [], st_mm s)) rfl (bi_Tif (fun hc => ?_) (fun hc => ?_))
  · have h := h.1 hc
    exact bi_Tww h rfl rfl ⟨rfl, rfl, rfl, rfl, rfl, trivial⟩
  · have h := h.2 hc
    refine bi_Tr 1 (s' := (232, [(5, .int (0 : Int32)), (0, .ref 77), (1, .int y1), (2, .int y2), (4, .int y4)], [.ref 77], st_mm s)) rfl ?_
    refine bi_TcV (as := [.ref 77]) rfl rfl ?_
    refine cV.mono h (fun s47 h => ?_) (fun _ _ h => h.elim)
    refine bi_Tr 1 (s' := (93, [(5, .int (0 : Int32)), (0, .ref 77), (1, .int y1), (2, .int y2), (4, .int y4)], [], st_mm s47)) rfl ?_
    exact bi_Tww h rfl rfl ⟨rfl, rfl, rfl, rfl, rfl, trivial⟩
/-- PolicyRowsModel.query(III)I -/
theorem en_X12_query {X : bi_X} {d : Nat} {K : Int32 → bi_St → Prop} {E : Nat → bi_St → Prop} {s : bi_St} {x0 : Int32} {x1 : Int32} {x2 : Int32}  (h : cI X d 222 [.ref 77, .int x0] (st_p s 77 0 (0 : Int32)) (fun (r1 : Int32) (s1 : bi_St) => ((r1 = 0) → at_X12_query_64 X (d + 1) K E s1) ∧ (¬ (r1 = 0) → ((x1 < (-1 : Int32)) → cI X d 163 [.ref 77, .int (0 : Int32), .int (1 : Int32)] s1 (fun (r2 : Int32) (s2 : bi_St) => ((r2 = 0) → at_X12_query_64 X (d + 1) K E s2) ∧ (¬ (r2 = 0) → ((x2 < 0) → cI X d 163 [.ref 77, .int (0 : Int32), .int (2 : Int32)] s2 (fun (r3 : Int32) (s3 : bi_St) => ((¬ r3 = 0) → cV X d 201 [.ref 77, .int x2] (st_p (st_p s3 77 14 (st_g s3 77 28)) 77 15 (st_g (st_p s3 77 14 (st_g s3 77 28)) 77 27)) (fun (s4 : bi_St) => at_X12_query_93 X (d + 1) K E s4 (x0) (x1) ((0 : Int32)) ((1 : Int32))) (fun _ _ => False)) ∧ (¬ (¬ r3 = 0) → at_X12_query_64 X (d + 1) K E s3)) (fun _ _ => False)) ∧ (¬ (x2 < 0) → (((st_g s2 77 2) < x2) → cI X d 163 [.ref 77, .int (0 : Int32), .int (2 : Int32)] s2 (fun (r5 : Int32) (s5 : bi_St) => ((¬ r5 = 0) → cV X d 201 [.ref 77, .int x2] (st_p (st_p s5 77 14 (st_g s5 77 28)) 77 15 (st_g (st_p s5 77 14 (st_g s5 77 28)) 77 27)) (fun (s6 : bi_St) => at_X12_query_93 X (d + 1) K E s6 (x0) (x1) ((0 : Int32)) ((1 : Int32))) (fun _ _ => False)) ∧ (¬ (¬ r5 = 0) → at_X12_query_64 X (d + 1) K E s5)) (fun _ _ => False)) ∧ (¬ ((st_g s2 77 2) < x2) → cI X d 163 [.ref 77, .int (1 : Int32), .int (2 : Int32)] s2 (fun (r7 : Int32) (s7 : bi_St) => ((¬ r7 = 0) → cV X d 201 [.ref 77, .int x2] (st_p (st_p s7 77 14 (st_g s7 77 28)) 77 15 (st_g (st_p s7 77 14 (st_g s7 77 28)) 77 27)) (fun (s8 : bi_St) => at_X12_query_93 X (d + 1) K E s8 (x0) (x1) ((0 : Int32)) ((1 : Int32))) (fun _ _ => False)) ∧ (¬ (¬ r7 = 0) → at_X12_query_64 X (d + 1) K E s7)) (fun _ _ => False))))) (fun _ _ => False)) ∧ (¬ (x1 < (-1 : Int32)) → (((st_g s1 77 30) ≤ x1) → cI X d 163 [.ref 77, .int (0 : Int32), .int (1 : Int32)] s1 (fun (r9 : Int32) (s9 : bi_St) => ((r9 = 0) → at_X12_query_64 X (d + 1) K E s9) ∧ (¬ (r9 = 0) → ((x2 < 0) → cI X d 163 [.ref 77, .int (0 : Int32), .int (2 : Int32)] s9 (fun (r10 : Int32) (s10 : bi_St) => ((¬ r10 = 0) → cV X d 201 [.ref 77, .int x2] (st_p (st_p s10 77 14 (st_g s10 77 28)) 77 15 (st_g (st_p s10 77 14 (st_g s10 77 28)) 77 27)) (fun (s11 : bi_St) => at_X12_query_93 X (d + 1) K E s11 (x0) (x1) ((0 : Int32)) ((1 : Int32))) (fun _ _ => False)) ∧ (¬ (¬ r10 = 0) → at_X12_query_64 X (d + 1) K E s10)) (fun _ _ => False)) ∧ (¬ (x2 < 0) → (((st_g s9 77 2) < x2) → cI X d 163 [.ref 77, .int (0 : Int32), .int (2 : Int32)] s9 (fun (r12 : Int32) (s12 : bi_St) => ((¬ r12 = 0) → cV X d 201 [.ref 77, .int x2] (st_p (st_p s12 77 14 (st_g s12 77 28)) 77 15 (st_g (st_p s12 77 14 (st_g s12 77 28)) 77 27)) (fun (s13 : bi_St) => at_X12_query_93 X (d + 1) K E s13 (x0) (x1) ((0 : Int32)) ((1 : Int32))) (fun _ _ => False)) ∧ (¬ (¬ r12 = 0) → at_X12_query_64 X (d + 1) K E s12)) (fun _ _ => False)) ∧ (¬ ((st_g s9 77 2) < x2) → cI X d 163 [.ref 77, .int (1 : Int32), .int (2 : Int32)] s9 (fun (r14 : Int32) (s14 : bi_St) => ((¬ r14 = 0) → cV X d 201 [.ref 77, .int x2] (st_p (st_p s14 77 14 (st_g s14 77 28)) 77 15 (st_g (st_p s14 77 14 (st_g s14 77 28)) 77 27)) (fun (s15 : bi_St) => at_X12_query_93 X (d + 1) K E s15 (x0) (x1) ((0 : Int32)) ((1 : Int32))) (fun _ _ => False)) ∧ (¬ (¬ r14 = 0) → at_X12_query_64 X (d + 1) K E s14)) (fun _ _ => False))))) (fun _ _ => False)) ∧ (¬ ((st_g s1 77 30) ≤ x1) → cI X d 163 [.ref 77, .int (1 : Int32), .int (1 : Int32)] s1 (fun (r16 : Int32) (s16 : bi_St) => ((r16 = 0) → at_X12_query_64 X (d + 1) K E s16) ∧ (¬ (r16 = 0) → ((x2 < 0) → cI X d 163 [.ref 77, .int (0 : Int32), .int (2 : Int32)] s16 (fun (r17 : Int32) (s17 : bi_St) => ((¬ r17 = 0) → cV X d 201 [.ref 77, .int x2] (st_p (st_p s17 77 14 (st_g s17 77 28)) 77 15 (st_g (st_p s17 77 14 (st_g s17 77 28)) 77 27)) (fun (s18 : bi_St) => at_X12_query_93 X (d + 1) K E s18 (x0) (x1) ((0 : Int32)) ((1 : Int32))) (fun _ _ => False)) ∧ (¬ (¬ r17 = 0) → at_X12_query_64 X (d + 1) K E s17)) (fun _ _ => False)) ∧ (¬ (x2 < 0) → (((st_g s16 77 2) < x2) → cI X d 163 [.ref 77, .int (0 : Int32), .int (2 : Int32)] s16 (fun (r19 : Int32) (s19 : bi_St) => ((¬ r19 = 0) → cV X d 201 [.ref 77, .int x2] (st_p (st_p s19 77 14 (st_g s19 77 28)) 77 15 (st_g (st_p s19 77 14 (st_g s19 77 28)) 77 27)) (fun (s20 : bi_St) => at_X12_query_93 X (d + 1) K E s20 (x0) (x1) ((0 : Int32)) ((1 : Int32))) (fun _ _ => False)) ∧ (¬ (¬ r19 = 0) → at_X12_query_64 X (d + 1) K E s19)) (fun _ _ => False)) ∧ (¬ ((st_g s16 77 2) < x2) → cI X d 163 [.ref 77, .int (1 : Int32), .int (2 : Int32)] s16 (fun (r21 : Int32) (s21 : bi_St) => ((¬ r21 = 0) → cV X d 201 [.ref 77, .int x2] (st_p (st_p s21 77 14 (st_g s21 77 28)) 77 15 (st_g (st_p s21 77 14 (st_g s21 77 28)) 77 27)) (fun (s22 : bi_St) => at_X12_query_93 X (d + 1) K E s22 (x0) (x1) ((0 : Int32)) ((1 : Int32))) (fun _ _ => False)) ∧ (¬ (¬ r21 = 0) → at_X12_query_64 X (d + 1) K E s21)) (fun _ _ => False))))) (fun _ _ => False))))) (fun _ _ => False)) : cI X (d + 1) 237 [.ref 77, .int x0, .int x1, .int x2] s K E := by
  show bi_T _ _ _ _ _
  refine bi_Tr 5 (s' := (7, [(0, .ref 77), (1, .int x0), (2, .int x1), (3, .int x2)], [.int x0, .ref 77], st_mm (st_p s 77 0 (0 : Int32)))) rfl ?_
  refine bi_TcI (as := [.ref 77, .int x0]) rfl rfl ?_
  refine cI.mono h (fun r1 s1 h => ?_) (fun _ _ h => h.elim)
  refine bi_Tr 1 (s' := ((if r1 = 0 then 64 else 13), [(0, .ref 77), (1, .int x0), (2, .int x1), (3, .int x2)], [], st_mm s1)) rfl (bi_Tif (fun hc => ?_) (fun hc => ?_))
  · have h := h.1 hc
    exact bi_Tww h rfl rfl trivial
  · have h := h.2 hc
    refine bi_Tr 4 (s' := ((if x1 < (-1 : Int32) then 31 else 19), [(0, .ref 77), (1, .int x0), (2, .int x1), (3, .int x2)], [.ref 77], st_mm s1)) rfl (bi_Tif (fun hc => ?_) (fun hc => ?_))
    · have h := h.1 hc
      refine bi_Tr 2 (s' := (33, [(0, .ref 77), (1, .int x0), (2, .int x1), (3, .int x2)], [.int (1 : Int32), .int (0 : Int32), .ref 77], st_mm s1)) rfl ?_
      refine bi_TcI (as := [.ref 77, .int (0 : Int32), .int (1 : Int32)]) rfl rfl ?_
      refine cI.mono h (fun r2 s2 h => ?_) (fun _ _ h => h.elim)
      refine bi_Tr 1 (s' := ((if r2 = 0 then 64 else 39), [(0, .ref 77), (1, .int x0), (2, .int x1), (3, .int x2)], [], st_mm s2)) rfl (bi_Tif (fun hc => ?_) (fun hc => ?_))
      · have h := h.1 hc
        exact bi_Tww h rfl rfl trivial
      · have h := h.2 hc
        refine bi_Tr 3 (s' := ((if x2 < 0 then 56 else 44), [(0, .ref 77), (1, .int x0), (2, .int x1), (3, .int x2)], [.ref 77], st_mm s2)) rfl (bi_Tif (fun hc => ?_) (fun hc => ?_))
        · have h := h.1 hc
          refine bi_Tr 2 (s' := (58, [(0, .ref 77), (1, .int x0), (2, .int x1), (3, .int x2)], [.int (2 : Int32), .int (0 : Int32), .ref 77], st_mm s2)) rfl ?_
          refine bi_TcI (as := [.ref 77, .int (0 : Int32), .int (2 : Int32)]) rfl rfl ?_
          refine cI.mono h (fun r3 s3 h => ?_) (fun _ _ h => h.elim)
          refine bi_Tr 1 (s' := ((if ¬ r3 = 0 then 66 else 64), [(0, .ref 77), (1, .int x0), (2, .int x1), (3, .int x2)], [], st_mm s3)) rfl (bi_Tif (fun hc => ?_) (fun hc => ?_))
          · have h := h.1 hc
            refine bi_Tr 10 (s' := (84, [(0, .ref 77), (1, .int x0), (2, .int x1), (3, .int x2)], [.int x2, .ref 77], st_mm (st_p (st_p s3 77 14 (st_g s3 77 28)) 77 15 (st_g (st_p s3 77 14 (st_g s3 77 28)) 77 27)))) rfl ?_
            refine bi_TcV (as := [.ref 77, .int x2]) rfl rfl ?_
            refine cV.mono h (fun s4 h => ?_) (fun _ _ h => h.elim)
            refine bi_Tr 4 (s' := (93, [(5, .int (1 : Int32)), (4, .int (0 : Int32)), (0, .ref 77), (1, .int x0), (2, .int x1), (3, .int x2)], [], st_mm s4)) rfl ?_
            exact bi_Tww h rfl rfl ⟨rfl, rfl, rfl, rfl, rfl, trivial⟩
          · have h := h.2 hc
            exact bi_Tww h rfl rfl trivial
        · have h := h.2 hc
          refine bi_Tr 4 (s' := ((if (st_g s2 77 2) < x2 then 56 else 52), [(0, .ref 77), (1, .int x0), (2, .int x1), (3, .int x2)], [.ref 77], st_mm s2)) rfl (bi_Tif (fun hc => ?_) (fun hc => ?_))
          · have h := h.1 hc
            refine bi_Tr 2 (s' := (58, [(0, .ref 77), (1, .int x0), (2, .int x1), (3, .int x2)], [.int (2 : Int32), .int (0 : Int32), .ref 77], st_mm s2)) rfl ?_
            refine bi_TcI (as := [.ref 77, .int (0 : Int32), .int (2 : Int32)]) rfl rfl ?_
            refine cI.mono h (fun r5 s5 h => ?_) (fun _ _ h => h.elim)
            refine bi_Tr 1 (s' := ((if ¬ r5 = 0 then 66 else 64), [(0, .ref 77), (1, .int x0), (2, .int x1), (3, .int x2)], [], st_mm s5)) rfl (bi_Tif (fun hc => ?_) (fun hc => ?_))
            · have h := h.1 hc
              refine bi_Tr 10 (s' := (84, [(0, .ref 77), (1, .int x0), (2, .int x1), (3, .int x2)], [.int x2, .ref 77], st_mm (st_p (st_p s5 77 14 (st_g s5 77 28)) 77 15 (st_g (st_p s5 77 14 (st_g s5 77 28)) 77 27)))) rfl ?_
              refine bi_TcV (as := [.ref 77, .int x2]) rfl rfl ?_
              refine cV.mono h (fun s6 h => ?_) (fun _ _ h => h.elim)
              refine bi_Tr 4 (s' := (93, [(5, .int (1 : Int32)), (4, .int (0 : Int32)), (0, .ref 77), (1, .int x0), (2, .int x1), (3, .int x2)], [], st_mm s6)) rfl ?_
              exact bi_Tww h rfl rfl ⟨rfl, rfl, rfl, rfl, rfl, trivial⟩
            · have h := h.2 hc
              exact bi_Tww h rfl rfl trivial
          · have h := h.2 hc
            refine bi_Tr 3 (s' := (58, [(0, .ref 77), (1, .int x0), (2, .int x1), (3, .int x2)], [.int (2 : Int32), .int (1 : Int32), .ref 77], st_mm s2)) rfl ?_
            refine bi_TcI (as := [.ref 77, .int (1 : Int32), .int (2 : Int32)]) rfl rfl ?_
            refine cI.mono h (fun r7 s7 h => ?_) (fun _ _ h => h.elim)
            refine bi_Tr 1 (s' := ((if ¬ r7 = 0 then 66 else 64), [(0, .ref 77), (1, .int x0), (2, .int x1), (3, .int x2)], [], st_mm s7)) rfl (bi_Tif (fun hc => ?_) (fun hc => ?_))
            · have h := h.1 hc
              refine bi_Tr 10 (s' := (84, [(0, .ref 77), (1, .int x0), (2, .int x1), (3, .int x2)], [.int x2, .ref 77], st_mm (st_p (st_p s7 77 14 (st_g s7 77 28)) 77 15 (st_g (st_p s7 77 14 (st_g s7 77 28)) 77 27)))) rfl ?_
              refine bi_TcV (as := [.ref 77, .int x2]) rfl rfl ?_
              refine cV.mono h (fun s8 h => ?_) (fun _ _ h => h.elim)
              refine bi_Tr 4 (s' := (93, [(5, .int (1 : Int32)), (4, .int (0 : Int32)), (0, .ref 77), (1, .int x0), (2, .int x1), (3, .int x2)], [], st_mm s8)) rfl ?_
              exact bi_Tww h rfl rfl ⟨rfl, rfl, rfl, rfl, rfl, trivial⟩
            · have h := h.2 hc
              exact bi_Tww h rfl rfl trivial
    · have h := h.2 hc
      refine bi_Tr 4 (s' := ((if (st_g s1 77 30) ≤ x1 then 31 else 27), [(0, .ref 77), (1, .int x0), (2, .int x1), (3, .int x2)], [.ref 77], st_mm s1)) rfl (bi_Tif (fun hc => ?_) (fun hc => ?_))
      · have h := h.1 hc
        refine bi_Tr 2 (s' := (33, [(0, .ref 77), (1, .int x0), (2, .int x1), (3, .int x2)], [.int (1 : Int32), .int (0 : Int32), .ref 77], st_mm s1)) rfl ?_
        refine bi_TcI (as := [.ref 77, .int (0 : Int32), .int (1 : Int32)]) rfl rfl ?_
        refine cI.mono h (fun r9 s9 h => ?_) (fun _ _ h => h.elim)
        refine bi_Tr 1 (s' := ((if r9 = 0 then 64 else 39), [(0, .ref 77), (1, .int x0), (2, .int x1), (3, .int x2)], [], st_mm s9)) rfl (bi_Tif (fun hc => ?_) (fun hc => ?_))
        · have h := h.1 hc
          exact bi_Tww h rfl rfl trivial
        · have h := h.2 hc
          refine bi_Tr 3 (s' := ((if x2 < 0 then 56 else 44), [(0, .ref 77), (1, .int x0), (2, .int x1), (3, .int x2)], [.ref 77], st_mm s9)) rfl (bi_Tif (fun hc => ?_) (fun hc => ?_))
          · have h := h.1 hc
            refine bi_Tr 2 (s' := (58, [(0, .ref 77), (1, .int x0), (2, .int x1), (3, .int x2)], [.int (2 : Int32), .int (0 : Int32), .ref 77], st_mm s9)) rfl ?_
            refine bi_TcI (as := [.ref 77, .int (0 : Int32), .int (2 : Int32)]) rfl rfl ?_
            refine cI.mono h (fun r10 s10 h => ?_) (fun _ _ h => h.elim)
            refine bi_Tr 1 (s' := ((if ¬ r10 = 0 then 66 else 64), [(0, .ref 77), (1, .int x0), (2, .int x1), (3, .int x2)], [], st_mm s10)) rfl (bi_Tif (fun hc => ?_) (fun hc => ?_))
            · have h := h.1 hc
              refine bi_Tr 10 (s' := (84, [(0, .ref 77), (1, .int x0), (2, .int x1), (3, .int x2)], [.int x2, .ref 77], st_mm (st_p (st_p s10 77 14 (st_g s10 77 28)) 77 15 (st_g (st_p s10 77 14 (st_g s10 77 28)) 77 27)))) rfl ?_
              refine bi_TcV (as := [.ref 77, .int x2]) rfl rfl ?_
              refine cV.mono h (fun s11 h => ?_) (fun _ _ h => h.elim)
              refine bi_Tr 4 (s' := (93, [(5, .int (1 : Int32)), (4, .int (0 : Int32)), (0, .ref 77), (1, .int x0), (2, .int x1), (3, .int x2)], [], st_mm s11)) rfl ?_
              exact bi_Tww h rfl rfl ⟨rfl, rfl, rfl, rfl, rfl, trivial⟩
            · have h := h.2 hc
              exact bi_Tww h rfl rfl trivial
          · have h := h.2 hc
            refine bi_Tr 4 (s' := ((if (st_g s9 77 2) < x2 then 56 else 52), [(0, .ref 77), (1, .int x0), (2, .int x1), (3, .int x2)], [.ref 77], st_mm s9)) rfl (bi_Tif (fun hc => ?_) (fun hc => ?_))
            · have h := h.1 hc
              refine bi_Tr 2 (s' := (58, [(0, .ref 77), (1, .int x0), (2, .int x1), (3, .int x2)], [.int (2 : Int32), .int (0 : Int32), .ref 77], st_mm s9)) rfl ?_
              refine bi_TcI (as := [.ref 77, .int (0 : Int32), .int (2 : Int32)]) rfl rfl ?_
              refine cI.mono h (fun r12 s12 h => ?_) (fun _ _ h => h.elim)
              refine bi_Tr 1 (s' := ((if ¬ r12 = 0 then 66 else 64), [(0, .ref 77), (1, .int x0), (2, .int x1), (3, .int x2)], [], st_mm s12)) rfl (bi_Tif (fun hc => ?_) (fun hc => ?_))
              · have h := h.1 hc
                refine bi_Tr 10 (s' := (84, [(0, .ref 77), (1, .int x0), (2, .int x1), (3, .int x2)], [.int x2, .ref 77], st_mm (st_p (st_p s12 77 14 (st_g s12 77 28)) 77 15 (st_g (st_p s12 77 14 (st_g s12 77 28)) 77 27)))) rfl ?_
                refine bi_TcV (as := [.ref 77, .int x2]) rfl rfl ?_
                refine cV.mono h (fun s13 h => ?_) (fun _ _ h => h.elim)
                refine bi_Tr 4 (s' := (93, [(5, .int (1 : Int32)), (4, .int (0 : Int32)), (0, .ref 77), (1, .int x0), (2, .int x1), (3, .int x2)], [], st_mm s13)) rfl ?_
                exact bi_Tww h rfl rfl ⟨rfl, rfl, rfl, rfl, rfl, trivial⟩
              · have h := h.2 hc
                exact bi_Tww h rfl rfl trivial
            · have h := h.2 hc
              refine bi_Tr 3 (s' := (58, [(0, .ref 77), (1, .int x0), (2, .int x1), (3, .int x2)], [.int (2 : Int32), .int (1 : Int32), .ref 77], st_mm s9)) rfl ?_
              refine bi_TcI (as := [.ref 77, .int (1 : Int32), .int (2 : Int32)]) rfl rfl ?_
              refine cI.mono h (fun r14 s14 h => ?_) (fun _ _ h => h.elim)
              refine bi_Tr 1 (s' := ((if ¬ r14 = 0 then 66 else 64), [(0, .ref 77), (1, .int x0), (2, .int x1), (3, .int x2)], [], st_mm s14)) rfl (bi_Tif (fun hc => ?_) (fun hc => ?_))
              · have h := h.1 hc
                refine bi_Tr 10 (s' := (84, [(0, .ref 77), (1, .int x0), (2, .int x1), (3, .int x2)], [.int x2, .ref 77], st_mm (st_p (st_p s14 77 14 (st_g s14 77 28)) 77 15 (st_g (st_p s14 77 14 (st_g s14 77 28)) 77 27)))) rfl ?_
                refine bi_TcV (as := [.ref 77, .int x2]) rfl rfl ?_
                refine cV.mono h (fun s15 h => ?_) (fun _ _ h => h.elim)
                refine bi_Tr 4 (s' := (93, [(5, .int (1 : Int32)), (4, .int (0 : Int32)), (0, .ref 77), (1, .int x0), (2, .int x1), (3, .int x2)], [], st_mm s15)) rfl ?_
                exact bi_Tww h rfl rfl ⟨rfl, rfl, rfl, rfl, rfl, trivial⟩
              · have h := h.2 hc
                exact bi_Tww h rfl rfl trivial
      · have h := h.2 hc
        refine bi_Tr 3 (s' := (33, [(0, .ref 77), (1, .int x0), (2, .int x1), (3, .int x2)], [.int (1 : Int32), .int (1 : Int32), .ref 77], st_mm s1)) rfl ?_
        refine bi_TcI (as := [.ref 77, .int (1 : Int32), .int (1 : Int32)]) rfl rfl ?_
        refine cI.mono h (fun r16 s16 h => ?_) (fun _ _ h => h.elim)
        refine bi_Tr 1 (s' := ((if r16 = 0 then 64 else 39), [(0, .ref 77), (1, .int x0), (2, .int x1), (3, .int x2)], [], st_mm s16)) rfl (bi_Tif (fun hc => ?_) (fun hc => ?_))
        · have h := h.1 hc
          exact bi_Tww h rfl rfl trivial
        · have h := h.2 hc
          refine bi_Tr 3 (s' := ((if x2 < 0 then 56 else 44), [(0, .ref 77), (1, .int x0), (2, .int x1), (3, .int x2)], [.ref 77], st_mm s16)) rfl (bi_Tif (fun hc => ?_) (fun hc => ?_))
          · have h := h.1 hc
            refine bi_Tr 2 (s' := (58, [(0, .ref 77), (1, .int x0), (2, .int x1), (3, .int x2)], [.int (2 : Int32), .int (0 : Int32), .ref 77], st_mm s16)) rfl ?_
            refine bi_TcI (as := [.ref 77, .int (0 : Int32), .int (2 : Int32)]) rfl rfl ?_
            refine cI.mono h (fun r17 s17 h => ?_) (fun _ _ h => h.elim)
            refine bi_Tr 1 (s' := ((if ¬ r17 = 0 then 66 else 64), [(0, .ref 77), (1, .int x0), (2, .int x1), (3, .int x2)], [], st_mm s17)) rfl (bi_Tif (fun hc => ?_) (fun hc => ?_))
            · have h := h.1 hc
              refine bi_Tr 10 (s' := (84, [(0, .ref 77), (1, .int x0), (2, .int x1), (3, .int x2)], [.int x2, .ref 77], st_mm (st_p (st_p s17 77 14 (st_g s17 77 28)) 77 15 (st_g (st_p s17 77 14 (st_g s17 77 28)) 77 27)))) rfl ?_
              refine bi_TcV (as := [.ref 77, .int x2]) rfl rfl ?_
              refine cV.mono h (fun s18 h => ?_) (fun _ _ h => h.elim)
              refine bi_Tr 4 (s' := (93, [(5, .int (1 : Int32)), (4, .int (0 : Int32)), (0, .ref 77), (1, .int x0), (2, .int x1), (3, .int x2)], [], st_mm s18)) rfl ?_
              exact bi_Tww h rfl rfl ⟨rfl, rfl, rfl, rfl, rfl, trivial⟩
            · have h := h.2 hc
              exact bi_Tww h rfl rfl trivial
          · have h := h.2 hc
            refine bi_Tr 4 (s' := ((if (st_g s16 77 2) < x2 then 56 else 52), [(0, .ref 77), (1, .int x0), (2, .int x1), (3, .int x2)], [.ref 77], st_mm s16)) rfl (bi_Tif (fun hc => ?_) (fun hc => ?_))
            · have h := h.1 hc
              refine bi_Tr 2 (s' := (58, [(0, .ref 77), (1, .int x0), (2, .int x1), (3, .int x2)], [.int (2 : Int32), .int (0 : Int32), .ref 77], st_mm s16)) rfl ?_
              refine bi_TcI (as := [.ref 77, .int (0 : Int32), .int (2 : Int32)]) rfl rfl ?_
              refine cI.mono h (fun r19 s19 h => ?_) (fun _ _ h => h.elim)
              refine bi_Tr 1 (s' := ((if ¬ r19 = 0 then 66 else 64), [(0, .ref 77), (1, .int x0), (2, .int x1), (3, .int x2)], [], st_mm s19)) rfl (bi_Tif (fun hc => ?_) (fun hc => ?_))
              · have h := h.1 hc
                refine bi_Tr 10 (s' := (84, [(0, .ref 77), (1, .int x0), (2, .int x1), (3, .int x2)], [.int x2, .ref 77], st_mm (st_p (st_p s19 77 14 (st_g s19 77 28)) 77 15 (st_g (st_p s19 77 14 (st_g s19 77 28)) 77 27)))) rfl ?_
                refine bi_TcV (as := [.ref 77, .int x2]) rfl rfl ?_
                refine cV.mono h (fun s20 h => ?_) (fun _ _ h => h.elim)
                refine bi_Tr 4 (s' := (93, [(5, .int (1 : Int32)), (4, .int (0 : Int32)), (0, .ref 77), (1, .int x0), (2, .int x1), (3, .int x2)], [], st_mm s20)) rfl ?_
                exact bi_Tww h rfl rfl ⟨rfl, rfl, rfl, rfl, rfl, trivial⟩
              · have h := h.2 hc
                exact bi_Tww h rfl rfl trivial
            · have h := h.2 hc
              refine bi_Tr 3 (s' := (58, [(0, .ref 77), (1, .int x0), (2, .int x1), (3, .int x2)], [.int (2 : Int32), .int (1 : Int32), .ref 77], st_mm s16)) rfl ?_
              refine bi_TcI (as := [.ref 77, .int (1 : Int32), .int (2 : Int32)]) rfl rfl ?_
              refine cI.mono h (fun r21 s21 h => ?_) (fun _ _ h => h.elim)
              refine bi_Tr 1 (s' := ((if ¬ r21 = 0 then 66 else 64), [(0, .ref 77), (1, .int x0), (2, .int x1), (3, .int x2)], [], st_mm s21)) rfl (bi_Tif (fun hc => ?_) (fun hc => ?_))
              · have h := h.1 hc
                refine bi_Tr 10 (s' := (84, [(0, .ref 77), (1, .int x0), (2, .int x1), (3, .int x2)], [.int x2, .ref 77], st_mm (st_p (st_p s21 77 14 (st_g s21 77 28)) 77 15 (st_g (st_p s21 77 14 (st_g s21 77 28)) 77 27)))) rfl ?_
                refine bi_TcV (as := [.ref 77, .int x2]) rfl rfl ?_
                refine cV.mono h (fun s22 h => ?_) (fun _ _ h => h.elim)
                refine bi_Tr 4 (s' := (93, [(5, .int (1 : Int32)), (4, .int (0 : Int32)), (0, .ref 77), (1, .int x0), (2, .int x1), (3, .int x2)], [], st_mm s22)) rfl ?_
                exact bi_Tww h rfl rfl ⟨rfl, rfl, rfl, rfl, rfl, trivial⟩
              · have h := h.2 hc
                exact bi_Tww h rfl rfl trivial
/-- PolicyRowsModel.asked(I)I -/
theorem en_X12_asked {X : bi_X} {d : Nat} {K : Int32 → bi_St → Prop} {E : Nat → bi_St → Prop} {s : bi_St} {x0 : Int32}  (h : cI X d 224 [.ref 77, .int x0, .int (7 : Int32)] (st_p s 77 0 (0 : Int32)) (fun (r1 : Int32) (s1 : bi_St) => ((¬ r1 = 0) → (((st_g s1 77 48) = 0) → K (-1 : Int32) s1) ∧ (¬ ((st_g s1 77 48) = 0) → bi_in x0 8 = true ∧ (K (st_g s1 97 (x0).toNatClampNeg) s1))) ∧ (¬ (¬ r1 = 0) → K (0 : Int32) s1)) (fun _ _ => False)) : cI X (d + 1) 238 [.ref 77, .int x0] s K E := by
  show bi_T _ _ _ _ _
  refine bi_Tr 6 (s' := (9, [(0, .ref 77), (1, .int x0)], [.int (7 : Int32), .int x0, .ref 77], st_mm (st_p s 77 0 (0 : Int32)))) rfl ?_
  refine bi_TcI (as := [.ref 77, .int x0, .int (7 : Int32)]) rfl rfl ?_
  refine cI.mono h (fun r1 s1 h => ?_) (fun _ _ h => h.elim)
  refine bi_Tr 1 (s' := ((if ¬ r1 = 0 then 17 else 15), [(0, .ref 77), (1, .int x0)], [], st_mm s1)) rfl (bi_Tif (fun hc => ?_) (fun hc => ?_))
  · have h := h.1 hc
    refine bi_Tr 3 (s' := ((if (st_g s1 77 48) = 0 then 33 else 24), [(0, .ref 77), (1, .int x0)], [], st_mm s1)) rfl (bi_Tif (fun hc => ?_) (fun hc => ?_))
    · have h := h.1 hc
      refine bi_Tr 1 (s' := (34, [(0, .ref 77), (1, .int x0)], [.int (-1 : Int32)], st_mm s1)) rfl ?_
      exact bi_Tv rfl rfl (Or.inl ⟨_, _, rfl, h⟩)
    · have h := h.2 hc
      refine bi_Tr 3 (s' := (29, [(0, .ref 77), (1, .int x0)], [.int x0, .ref 97], st_mm s1)) rfl ?_
      obtain ⟨hi, h⟩ := h
      refine bi_Tial rfl rfl rfl hi ?_
      refine bi_Tr 1 (s' := (34, [(0, .ref 77), (1, .int x0)], [.int (st_g s1 97 (x0).toNatClampNeg)], st_mm s1)) rfl ?_
      exact bi_Tv rfl rfl (Or.inl ⟨_, _, rfl, h⟩)
  · have h := h.2 hc
    refine bi_Tr 1 (s' := (16, [(0, .ref 77), (1, .int x0)], [.int (0 : Int32)], st_mm s1)) rfl ?_
    exact bi_Tv rfl rfl (Or.inl ⟨_, _, rfl, h⟩)
def at_X12_step_46 (X : bi_X) (d : Nat) (K : Int32 → bi_St → Prop) (E : Nat → bi_St → Prop) (s : bi_St)  : Prop := bi_T X d 239 (46, [], [], st_mm s) (st_RI K E)
theorem go_X12_step_46 {X : bi_X} {d : Nat} {K : Int32 → bi_St → Prop} {E : Nat → bi_St → Prop}  {s : bi_St}   (h : K (0 : Int32) s) : at_X12_step_46 X (d + 1) K E s  := by
  show bi_T _ _ _ _ _
  refine bi_Tr 1 (s' := (47, [], [.int (0 : Int32)], st_mm s)) rfl ?_
  exact bi_Tv rfl rfl (Or.inl ⟨_, _, rfl, h⟩)
/-- PolicyRowsModel.step(II)I -/
theorem en_X12_step {X : bi_X} {d : Nat} {K : Int32 → bi_St → Prop} {E : Nat → bi_St → Prop} {s : bi_St} {x0 : Int32} {x1 : Int32}  (h : (((st_g (st_p s 77 0 (0 : Int32)) 77 48) = 0) → cI X d 163 [.ref 77, .int (0 : Int32), .int (1 : Int32)] (st_p s 77 0 (0 : Int32)) (fun (r1 : Int32) (s1 : bi_St) => ((r1 = 0) → at_X12_step_46 X (d + 1) K E s1) ∧ (¬ (r1 = 0) → cI X d 224 [.ref 77, .int x1, .int (5 : Int32)] s1 (fun (r2 : Int32) (s2 : bi_St) => ((¬ r2 = 0) → (((4 : Int32) ≤ x1) → ((¬ x1 = (4 : Int32)) → bi_in x0 9 = true ∧ (K (st_g s2 96 (x0).toNatClampNeg) s2)) ∧ (¬ (¬ x1 = (4 : Int32)) → bi_in x0 9 = true ∧ (K (st_g s2 95 (x0).toNatClampNeg) s2))) ∧ (¬ ((4 : Int32) ≤ x1) → bi_in (((6 : Int32) * x0) + x1) 54 = true ∧ (K (st_g s2 94 ((((6 : Int32) * x0) + x1)).toNatClampNeg) s2))) ∧ (¬ (¬ r2 = 0) → at_X12_step_46 X (d + 1) K E s2)) (fun _ _ => False))) (fun _ _ => False)) ∧ (¬ ((st_g (st_p s 77 0 (0 : Int32)) 77 48) = 0) → ((x0 < 0) → cI X d 163 [.ref 77, .int (0 : Int32), .int (1 : Int32)] (st_p s 77 0 (0 : Int32)) (fun (r3 : Int32) (s3 : bi_St) => ((r3 = 0) → at_X12_step_46 X (d + 1) K E s3) ∧ (¬ (r3 = 0) → cI X d 224 [.ref 77, .int x1, .int (5 : Int32)] s3 (fun (r4 : Int32) (s4 : bi_St) => ((¬ r4 = 0) → (((4 : Int32) ≤ x1) → ((¬ x1 = (4 : Int32)) → bi_in x0 9 = true ∧ (K (st_g s4 96 (x0).toNatClampNeg) s4)) ∧ (¬ (¬ x1 = (4 : Int32)) → bi_in x0 9 = true ∧ (K (st_g s4 95 (x0).toNatClampNeg) s4))) ∧ (¬ ((4 : Int32) ≤ x1) → bi_in (((6 : Int32) * x0) + x1) 54 = true ∧ (K (st_g s4 94 ((((6 : Int32) * x0) + x1)).toNatClampNeg) s4))) ∧ (¬ (¬ r4 = 0) → at_X12_step_46 X (d + 1) K E s4)) (fun _ _ => False))) (fun _ _ => False)) ∧ (¬ (x0 < 0) → (((st_g (st_p s 77 0 (0 : Int32)) 77 49) ≤ x0) → cI X d 163 [.ref 77, .int (0 : Int32), .int (1 : Int32)] (st_p s 77 0 (0 : Int32)) (fun (r5 : Int32) (s5 : bi_St) => ((r5 = 0) → at_X12_step_46 X (d + 1) K E s5) ∧ (¬ (r5 = 0) → cI X d 224 [.ref 77, .int x1, .int (5 : Int32)] s5 (fun (r6 : Int32) (s6 : bi_St) => ((¬ r6 = 0) → (((4 : Int32) ≤ x1) → ((¬ x1 = (4 : Int32)) → bi_in x0 9 = true ∧ (K (st_g s6 96 (x0).toNatClampNeg) s6)) ∧ (¬ (¬ x1 = (4 : Int32)) → bi_in x0 9 = true ∧ (K (st_g s6 95 (x0).toNatClampNeg) s6))) ∧ (¬ ((4 : Int32) ≤ x1) → bi_in (((6 : Int32) * x0) + x1) 54 = true ∧ (K (st_g s6 94 ((((6 : Int32) * x0) + x1)).toNatClampNeg) s6))) ∧ (¬ (¬ r6 = 0) → at_X12_step_46 X (d + 1) K E s6)) (fun _ _ => False))) (fun _ _ => False)) ∧ (¬ ((st_g (st_p s 77 0 (0 : Int32)) 77 49) ≤ x0) → cI X d 163 [.ref 77, .int (1 : Int32), .int (1 : Int32)] (st_p s 77 0 (0 : Int32)) (fun (r7 : Int32) (s7 : bi_St) => ((r7 = 0) → at_X12_step_46 X (d + 1) K E s7) ∧ (¬ (r7 = 0) → cI X d 224 [.ref 77, .int x1, .int (5 : Int32)] s7 (fun (r8 : Int32) (s8 : bi_St) => ((¬ r8 = 0) → (((4 : Int32) ≤ x1) → ((¬ x1 = (4 : Int32)) → bi_in x0 9 = true ∧ (K (st_g s8 96 (x0).toNatClampNeg) s8)) ∧ (¬ (¬ x1 = (4 : Int32)) → bi_in x0 9 = true ∧ (K (st_g s8 95 (x0).toNatClampNeg) s8))) ∧ (¬ ((4 : Int32) ≤ x1) → bi_in (((6 : Int32) * x0) + x1) 54 = true ∧ (K (st_g s8 94 ((((6 : Int32) * x0) + x1)).toNatClampNeg) s8))) ∧ (¬ (¬ r8 = 0) → at_X12_step_46 X (d + 1) K E s8)) (fun _ _ => False))) (fun _ _ => False))))) : cI X (d + 1) 239 [.ref 77, .int x0, .int x1] s K E := by
  show bi_T _ _ _ _ _
  refine bi_Tr 7 (s' := ((if (st_g (st_p s 77 0 (0 : Int32)) 77 48) = 0 then 29 else 13), [(0, .ref 77), (1, .int x0), (2, .int x1)], [.ref 77], st_mm (st_p s 77 0 (0 : Int32)))) rfl (bi_Tif (fun hc => ?_) (fun hc => ?_))
  · have h := h.1 hc
    refine bi_Tr 2 (s' := (31, [(0, .ref 77), (1, .int x0), (2, .int x1)], [.int (1 : Int32), .int (0 : Int32), .ref 77], st_mm (st_p s 77 0 (0 : Int32)))) rfl ?_
    refine bi_TcI (as := [.ref 77, .int (0 : Int32), .int (1 : Int32)]) rfl rfl ?_
    refine cI.mono h (fun r1 s1 h => ?_) (fun _ _ h => h.elim)
    refine bi_Tr 1 (s' := ((if r1 = 0 then 46 else 37), [(0, .ref 77), (1, .int x0), (2, .int x1)], [], st_mm s1)) rfl (bi_Tif (fun hc => ?_) (fun hc => ?_))
    · have h := h.1 hc
      exact bi_Tww h rfl rfl trivial
    · have h := h.2 hc
      refine bi_Tr 3 (s' := (40, [(0, .ref 77), (1, .int x0), (2, .int x1)], [.int (5 : Int32), .int x1, .ref 77], st_mm s1)) rfl ?_
      refine bi_TcI (as := [.ref 77, .int x1, .int (5 : Int32)]) rfl rfl ?_
      refine cI.mono h (fun r2 s2 h => ?_) (fun _ _ h => h.elim)
      refine bi_Tr 1 (s' := ((if ¬ r2 = 0 then 48 else 46), [(0, .ref 77), (1, .int x0), (2, .int x1)], [], st_mm s2)) rfl (bi_Tif (fun hc => ?_) (fun hc => ?_))
      · have h := h.1 hc
        refine bi_Tr 3 (s' := ((if (4 : Int32) ≤ x1 then 67 else 53), [(0, .ref 77), (1, .int x0), (2, .int x1)], [], st_mm s2)) rfl (bi_Tif (fun hc => ?_) (fun hc => ?_))
        · have h := h.1 hc
          refine bi_Tr 3 (s' := ((if ¬ x1 = (4 : Int32) then 81 else 72), [(0, .ref 77), (1, .int x0), (2, .int x1)], [], st_mm s2)) rfl (bi_Tif (fun hc => ?_) (fun hc => ?_))
          · have h := h.1 hc
            refine bi_Tr 3 (s' := (86, [(0, .ref 77), (1, .int x0), (2, .int x1)], [.int x0, .ref 96], st_mm s2)) rfl ?_
            obtain ⟨hi, h⟩ := h
            refine bi_Tial rfl rfl rfl hi ?_
            exact bi_Tv rfl rfl (Or.inl ⟨_, _, rfl, h⟩)
          · have h := h.2 hc
            refine bi_Tr 3 (s' := (77, [(0, .ref 77), (1, .int x0), (2, .int x1)], [.int x0, .ref 95], st_mm s2)) rfl ?_
            obtain ⟨hi, h⟩ := h
            refine bi_Tial rfl rfl rfl hi ?_
            refine bi_Tr 1 (s' := (87, [(0, .ref 77), (1, .int x0), (2, .int x1)], [.int (st_g s2 95 (x0).toNatClampNeg)], st_mm s2)) rfl ?_
            exact bi_Tv rfl rfl (Or.inl ⟨_, _, rfl, h⟩)
        · have h := h.2 hc
          refine bi_Tr 7 (s' := (63, [(0, .ref 77), (1, .int x0), (2, .int x1)], [.int (((6 : Int32) * x0) + x1), .ref 94], st_mm s2)) rfl ?_
          obtain ⟨hi, h⟩ := h
          refine bi_Tial rfl rfl rfl hi ?_
          refine bi_Tr 1 (s' := (87, [(0, .ref 77), (1, .int x0), (2, .int x1)], [.int (st_g s2 94 ((((6 : Int32) * x0) + x1)).toNatClampNeg)], st_mm s2)) rfl ?_
          exact bi_Tv rfl rfl (Or.inl ⟨_, _, rfl, h⟩)
      · have h := h.2 hc
        exact bi_Tww h rfl rfl trivial
  · have h := h.2 hc
    refine bi_Tr 2 (s' := ((if x0 < 0 then 29 else 17), [(0, .ref 77), (1, .int x0), (2, .int x1)], [.ref 77], st_mm (st_p s 77 0 (0 : Int32)))) rfl (bi_Tif (fun hc => ?_) (fun hc => ?_))
    · have h := h.1 hc
      refine bi_Tr 2 (s' := (31, [(0, .ref 77), (1, .int x0), (2, .int x1)], [.int (1 : Int32), .int (0 : Int32), .ref 77], st_mm (st_p s 77 0 (0 : Int32)))) rfl ?_
      refine bi_TcI (as := [.ref 77, .int (0 : Int32), .int (1 : Int32)]) rfl rfl ?_
      refine cI.mono h (fun r3 s3 h => ?_) (fun _ _ h => h.elim)
      refine bi_Tr 1 (s' := ((if r3 = 0 then 46 else 37), [(0, .ref 77), (1, .int x0), (2, .int x1)], [], st_mm s3)) rfl (bi_Tif (fun hc => ?_) (fun hc => ?_))
      · have h := h.1 hc
        exact bi_Tww h rfl rfl trivial
      · have h := h.2 hc
        refine bi_Tr 3 (s' := (40, [(0, .ref 77), (1, .int x0), (2, .int x1)], [.int (5 : Int32), .int x1, .ref 77], st_mm s3)) rfl ?_
        refine bi_TcI (as := [.ref 77, .int x1, .int (5 : Int32)]) rfl rfl ?_
        refine cI.mono h (fun r4 s4 h => ?_) (fun _ _ h => h.elim)
        refine bi_Tr 1 (s' := ((if ¬ r4 = 0 then 48 else 46), [(0, .ref 77), (1, .int x0), (2, .int x1)], [], st_mm s4)) rfl (bi_Tif (fun hc => ?_) (fun hc => ?_))
        · have h := h.1 hc
          refine bi_Tr 3 (s' := ((if (4 : Int32) ≤ x1 then 67 else 53), [(0, .ref 77), (1, .int x0), (2, .int x1)], [], st_mm s4)) rfl (bi_Tif (fun hc => ?_) (fun hc => ?_))
          · have h := h.1 hc
            refine bi_Tr 3 (s' := ((if ¬ x1 = (4 : Int32) then 81 else 72), [(0, .ref 77), (1, .int x0), (2, .int x1)], [], st_mm s4)) rfl (bi_Tif (fun hc => ?_) (fun hc => ?_))
            · have h := h.1 hc
              refine bi_Tr 3 (s' := (86, [(0, .ref 77), (1, .int x0), (2, .int x1)], [.int x0, .ref 96], st_mm s4)) rfl ?_
              obtain ⟨hi, h⟩ := h
              refine bi_Tial rfl rfl rfl hi ?_
              exact bi_Tv rfl rfl (Or.inl ⟨_, _, rfl, h⟩)
            · have h := h.2 hc
              refine bi_Tr 3 (s' := (77, [(0, .ref 77), (1, .int x0), (2, .int x1)], [.int x0, .ref 95], st_mm s4)) rfl ?_
              obtain ⟨hi, h⟩ := h
              refine bi_Tial rfl rfl rfl hi ?_
              refine bi_Tr 1 (s' := (87, [(0, .ref 77), (1, .int x0), (2, .int x1)], [.int (st_g s4 95 (x0).toNatClampNeg)], st_mm s4)) rfl ?_
              exact bi_Tv rfl rfl (Or.inl ⟨_, _, rfl, h⟩)
          · have h := h.2 hc
            refine bi_Tr 7 (s' := (63, [(0, .ref 77), (1, .int x0), (2, .int x1)], [.int (((6 : Int32) * x0) + x1), .ref 94], st_mm s4)) rfl ?_
            obtain ⟨hi, h⟩ := h
            refine bi_Tial rfl rfl rfl hi ?_
            refine bi_Tr 1 (s' := (87, [(0, .ref 77), (1, .int x0), (2, .int x1)], [.int (st_g s4 94 ((((6 : Int32) * x0) + x1)).toNatClampNeg)], st_mm s4)) rfl ?_
            exact bi_Tv rfl rfl (Or.inl ⟨_, _, rfl, h⟩)
        · have h := h.2 hc
          exact bi_Tww h rfl rfl trivial
    · have h := h.2 hc
      refine bi_Tr 4 (s' := ((if (st_g (st_p s 77 0 (0 : Int32)) 77 49) ≤ x0 then 29 else 25), [(0, .ref 77), (1, .int x0), (2, .int x1)], [.ref 77], st_mm (st_p s 77 0 (0 : Int32)))) rfl (bi_Tif (fun hc => ?_) (fun hc => ?_))
      · have h := h.1 hc
        refine bi_Tr 2 (s' := (31, [(0, .ref 77), (1, .int x0), (2, .int x1)], [.int (1 : Int32), .int (0 : Int32), .ref 77], st_mm (st_p s 77 0 (0 : Int32)))) rfl ?_
        refine bi_TcI (as := [.ref 77, .int (0 : Int32), .int (1 : Int32)]) rfl rfl ?_
        refine cI.mono h (fun r5 s5 h => ?_) (fun _ _ h => h.elim)
        refine bi_Tr 1 (s' := ((if r5 = 0 then 46 else 37), [(0, .ref 77), (1, .int x0), (2, .int x1)], [], st_mm s5)) rfl (bi_Tif (fun hc => ?_) (fun hc => ?_))
        · have h := h.1 hc
          exact bi_Tww h rfl rfl trivial
        · have h := h.2 hc
          refine bi_Tr 3 (s' := (40, [(0, .ref 77), (1, .int x0), (2, .int x1)], [.int (5 : Int32), .int x1, .ref 77], st_mm s5)) rfl ?_
          refine bi_TcI (as := [.ref 77, .int x1, .int (5 : Int32)]) rfl rfl ?_
          refine cI.mono h (fun r6 s6 h => ?_) (fun _ _ h => h.elim)
          refine bi_Tr 1 (s' := ((if ¬ r6 = 0 then 48 else 46), [(0, .ref 77), (1, .int x0), (2, .int x1)], [], st_mm s6)) rfl (bi_Tif (fun hc => ?_) (fun hc => ?_))
          · have h := h.1 hc
            refine bi_Tr 3 (s' := ((if (4 : Int32) ≤ x1 then 67 else 53), [(0, .ref 77), (1, .int x0), (2, .int x1)], [], st_mm s6)) rfl (bi_Tif (fun hc => ?_) (fun hc => ?_))
            · have h := h.1 hc
              refine bi_Tr 3 (s' := ((if ¬ x1 = (4 : Int32) then 81 else 72), [(0, .ref 77), (1, .int x0), (2, .int x1)], [], st_mm s6)) rfl (bi_Tif (fun hc => ?_) (fun hc => ?_))
              · have h := h.1 hc
                refine bi_Tr 3 (s' := (86, [(0, .ref 77), (1, .int x0), (2, .int x1)], [.int x0, .ref 96], st_mm s6)) rfl ?_
                obtain ⟨hi, h⟩ := h
                refine bi_Tial rfl rfl rfl hi ?_
                exact bi_Tv rfl rfl (Or.inl ⟨_, _, rfl, h⟩)
              · have h := h.2 hc
                refine bi_Tr 3 (s' := (77, [(0, .ref 77), (1, .int x0), (2, .int x1)], [.int x0, .ref 95], st_mm s6)) rfl ?_
                obtain ⟨hi, h⟩ := h
                refine bi_Tial rfl rfl rfl hi ?_
                refine bi_Tr 1 (s' := (87, [(0, .ref 77), (1, .int x0), (2, .int x1)], [.int (st_g s6 95 (x0).toNatClampNeg)], st_mm s6)) rfl ?_
                exact bi_Tv rfl rfl (Or.inl ⟨_, _, rfl, h⟩)
            · have h := h.2 hc
              refine bi_Tr 7 (s' := (63, [(0, .ref 77), (1, .int x0), (2, .int x1)], [.int (((6 : Int32) * x0) + x1), .ref 94], st_mm s6)) rfl ?_
              obtain ⟨hi, h⟩ := h
              refine bi_Tial rfl rfl rfl hi ?_
              refine bi_Tr 1 (s' := (87, [(0, .ref 77), (1, .int x0), (2, .int x1)], [.int (st_g s6 94 ((((6 : Int32) * x0) + x1)).toNatClampNeg)], st_mm s6)) rfl ?_
              exact bi_Tv rfl rfl (Or.inl ⟨_, _, rfl, h⟩)
          · have h := h.2 hc
            exact bi_Tww h rfl rfl trivial
      · have h := h.2 hc
        refine bi_Tr 3 (s' := (31, [(0, .ref 77), (1, .int x0), (2, .int x1)], [.int (1 : Int32), .int (1 : Int32), .ref 77], st_mm (st_p s 77 0 (0 : Int32)))) rfl ?_
        refine bi_TcI (as := [.ref 77, .int (1 : Int32), .int (1 : Int32)]) rfl rfl ?_
        refine cI.mono h (fun r7 s7 h => ?_) (fun _ _ h => h.elim)
        refine bi_Tr 1 (s' := ((if r7 = 0 then 46 else 37), [(0, .ref 77), (1, .int x0), (2, .int x1)], [], st_mm s7)) rfl (bi_Tif (fun hc => ?_) (fun hc => ?_))
        · have h := h.1 hc
          exact bi_Tww h rfl rfl trivial
        · have h := h.2 hc
          refine bi_Tr 3 (s' := (40, [(0, .ref 77), (1, .int x0), (2, .int x1)], [.int (5 : Int32), .int x1, .ref 77], st_mm s7)) rfl ?_
          refine bi_TcI (as := [.ref 77, .int x1, .int (5 : Int32)]) rfl rfl ?_
          refine cI.mono h (fun r8 s8 h => ?_) (fun _ _ h => h.elim)
          refine bi_Tr 1 (s' := ((if ¬ r8 = 0 then 48 else 46), [(0, .ref 77), (1, .int x0), (2, .int x1)], [], st_mm s8)) rfl (bi_Tif (fun hc => ?_) (fun hc => ?_))
          · have h := h.1 hc
            refine bi_Tr 3 (s' := ((if (4 : Int32) ≤ x1 then 67 else 53), [(0, .ref 77), (1, .int x0), (2, .int x1)], [], st_mm s8)) rfl (bi_Tif (fun hc => ?_) (fun hc => ?_))
            · have h := h.1 hc
              refine bi_Tr 3 (s' := ((if ¬ x1 = (4 : Int32) then 81 else 72), [(0, .ref 77), (1, .int x0), (2, .int x1)], [], st_mm s8)) rfl (bi_Tif (fun hc => ?_) (fun hc => ?_))
              · have h := h.1 hc
                refine bi_Tr 3 (s' := (86, [(0, .ref 77), (1, .int x0), (2, .int x1)], [.int x0, .ref 96], st_mm s8)) rfl ?_
                obtain ⟨hi, h⟩ := h
                refine bi_Tial rfl rfl rfl hi ?_
                exact bi_Tv rfl rfl (Or.inl ⟨_, _, rfl, h⟩)
              · have h := h.2 hc
                refine bi_Tr 3 (s' := (77, [(0, .ref 77), (1, .int x0), (2, .int x1)], [.int x0, .ref 95], st_mm s8)) rfl ?_
                obtain ⟨hi, h⟩ := h
                refine bi_Tial rfl rfl rfl hi ?_
                refine bi_Tr 1 (s' := (87, [(0, .ref 77), (1, .int x0), (2, .int x1)], [.int (st_g s8 95 (x0).toNatClampNeg)], st_mm s8)) rfl ?_
                exact bi_Tv rfl rfl (Or.inl ⟨_, _, rfl, h⟩)
            · have h := h.2 hc
              refine bi_Tr 7 (s' := (63, [(0, .ref 77), (1, .int x0), (2, .int x1)], [.int (((6 : Int32) * x0) + x1), .ref 94], st_mm s8)) rfl ?_
              obtain ⟨hi, h⟩ := h
              refine bi_Tial rfl rfl rfl hi ?_
              refine bi_Tr 1 (s' := (87, [(0, .ref 77), (1, .int x0), (2, .int x1)], [.int (st_g s8 94 ((((6 : Int32) * x0) + x1)).toNatClampNeg)], st_mm s8)) rfl ?_
              exact bi_Tv rfl rfl (Or.inl ⟨_, _, rfl, h⟩)
          · have h := h.2 hc
            exact bi_Tww h rfl rfl trivial
/-- PolicyRowsModel.isNumber(I)Z -/
theorem en_X12_isNumber {X : bi_X} {d : Nat} {K : Int32 → bi_St → Prop} {E : Nat → bi_St → Prop} {s : bi_St} {x0 : Int32}  (h : cI X d 164 [.int x0, .int (-99 : Int32), .int (99 : Int32)] s (fun (r1 : Int32) (s1 : bi_St) => bi_bool r1 = true ∧ (K r1 s1)) (fun _ _ => False)) : cI X (d + 1) 240 [.ref 77, .int x0] s K E := by
  show bi_T _ _ _ _ _
  refine bi_Tr 3 (s' := (5, [(0, .ref 77), (1, .int x0)], [.int (99 : Int32), .int (-99 : Int32), .int x0], st_mm s)) rfl ?_
  refine bi_TcI (as := [.int x0, .int (-99 : Int32), .int (99 : Int32)]) rfl rfl ?_
  refine cI.mono h (fun r1 s1 h => ?_) (fun _ _ h => h.elim)
  obtain ⟨hi, h⟩ := h
  exact bi_Tv rfl hi (Or.inl ⟨_, _, rfl, h⟩)
def at_X12_inserts_104 (X : bi_X) (d : Nat) (K : Int32 → bi_St → Prop) (E : Nat → bi_St → Prop) (s : bi_St) (y1 : Int32) (y7 : Int32) : Prop := bi_T X d 241 (104, [(0, .ref 77), (1, .int y1), (7, .int y7)], [], st_mm s) (st_RI K E)
theorem go_X12_inserts_104 {X : bi_X} {d : Nat} {K : Int32 → bi_St → Prop} {E : Nat → bi_St → Prop}  {s : bi_St} {y1 : Int32} {y7 : Int32}  (h : (((4 : Int32) ≤ y7) → bi_in (y1 + (7 : Int32)) 144 = true ∧ (bi_in (y1 + (7 : Int32)) 144 = true ∧ (K (1 : Int32) (st_p s 90 ((y1 + (7 : Int32))).toNatClampNeg ((st_g s 90 ((y1 + (7 : Int32))).toNatClampNeg) + (1 : Int32)))))) ∧ (¬ ((4 : Int32) ≤ y7) → bi_in (y1 + (7 : Int32)) 144 = true ∧ (bi_in y7 5 = true ∧ (bi_in (((y1 + (8 : Int32)) + ((4 : Int32) * (st_g s 90 ((y1 + (7 : Int32))).toNatClampNeg))) + y7) 144 = true ∧ (at_X12_inserts_104 X (d + 1) K E (st_p s 90 ((((y1 + (8 : Int32)) + ((4 : Int32) * (st_g s 90 ((y1 + (7 : Int32))).toNatClampNeg))) + y7)).toNatClampNeg (st_g s 92 (y7).toNatClampNeg)) (y1) ((y7 + (1 : Int32)))))))) : at_X12_inserts_104 X (d + 1) K E s y1 y7 := by
  show bi_T _ _ _ _ _
  refine bi_Tr 3 (s' := ((if (4 : Int32) ≤ y7 then 147 else 110), [(0, .ref 77), (1, .int y1), (7, .int y7)], [], st_mm s)) rfl (bi_Tif (fun hc => ?_) (fun hc => ?_))
  · have h := h.1 hc
    refine bi_Tr 6 (s' := (156, [(0, .ref 77), (1, .int y1), (7, .int y7)], [.int (y1 + (7 : Int32)), .ref 90, .int (y1 + (7 : Int32)), .ref 90], st_mm s)) rfl ?_
    obtain ⟨hi, h⟩ := h
    refine bi_Tial rfl rfl rfl hi ?_
    refine bi_Tr 2 (s' := (159, [(0, .ref 77), (1, .int y1), (7, .int y7)], [.int ((st_g s 90 ((y1 + (7 : Int32))).toNatClampNeg) + (1 : Int32)), .int (y1 + (7 : Int32)), .ref 90], st_mm s)) rfl ?_
    obtain ⟨hi, h⟩ := h
    refine bi_Tias rfl rfl hi ?_
    refine bi_Tr 1 (s' := (161, [(0, .ref 77), (1, .int y1), (7, .int y7)], [.int (1 : Int32)], st_mm (st_p s 90 ((y1 + (7 : Int32))).toNatClampNeg ((st_g s 90 ((y1 + (7 : Int32))).toNatClampNeg) + (1 : Int32))))) rfl ?_
    exact bi_Tv rfl rfl (Or.inl ⟨_, _, rfl, h⟩)
  · have h := h.2 hc
    refine bi_Tr 11 (s' := (127, [(0, .ref 77), (1, .int y1), (7, .int y7)], [.int (y1 + (7 : Int32)), .ref 90, .int (4 : Int32), .int (y1 + (8 : Int32)), .ref 90], st_mm s)) rfl ?_
    obtain ⟨hi, h⟩ := h
    refine bi_Tial rfl rfl rfl hi ?_
    refine bi_Tr 7 (s' := (139, [(0, .ref 77), (1, .int y1), (7, .int y7)], [.int y7, .ref 92, .int (((y1 + (8 : Int32)) + ((4 : Int32) * (st_g s 90 ((y1 + (7 : Int32))).toNatClampNeg))) + y7), .ref 90], st_mm s)) rfl ?_
    obtain ⟨hi, h⟩ := h
    refine bi_Tial rfl rfl rfl hi ?_
    obtain ⟨hi, h⟩ := h
    refine bi_Tias rfl rfl hi ?_
    refine bi_Tr 2 (s' := (104, [(7, .int (y7 + (1 : Int32))), (0, .ref 77), (1, .int y1)], [], st_mm (st_p s 90 ((((y1 + (8 : Int32)) + ((4 : Int32) * (st_g s 90 ((y1 + (7 : Int32))).toNatClampNeg))) + y7)).toNatClampNeg (st_g s 92 (y7).toNatClampNeg)))) rfl ?_
    exact bi_Tww h rfl rfl ⟨rfl, rfl, rfl, trivial⟩
/-- PolicyRowsModel.inserts(IIIIII)Z -/
theorem en_X12_inserts {X : bi_X} {d : Nat} {K : Int32 → bi_St → Prop} {E : Nat → bi_St → Prop} {s : bi_St} {x0 : Int32} {x1 : Int32} {x2 : Int32} {x3 : Int32} {x4 : Int32} {x5 : Int32}  (h : bi_in (x0 + (7 : Int32)) 144 = true ∧ (((¬ (st_g s 90 ((x0 + (7 : Int32))).toNatClampNeg) = (16 : Int32)) → cV X d 211 [.ref 77, .int x0, .int x1] s (fun (s1 : bi_St) => bi_in (0 : Int32) 5 = true ∧ ((((st_g (st_p s1 92 ((0 : Int32)).toNatClampNeg x2) 77 28) ≤ (1 : Int32)) → bi_in (1 : Int32) 5 = true ∧ ((((st_g (st_p (st_p s1 92 ((0 : Int32)).toNatClampNeg x2) 92 ((1 : Int32)).toNatClampNeg (0 : Int32)) 77 28) ≤ (2 : Int32)) → bi_in (2 : Int32) 5 = true ∧ ((((st_g (st_p (st_p (st_p s1 92 ((0 : Int32)).toNatClampNeg x2) 92 ((1 : Int32)).toNatClampNeg (0 : Int32)) 92 ((2 : Int32)).toNatClampNeg (0 : Int32)) 77 28) ≤ (3 : Int32)) → bi_in (3 : Int32) 5 = true ∧ (cI X d 215 [.ref 77, .int x0, .int (1 : Int32), .int (1 : Int32)] (st_p (st_p (st_p (st_p s1 92 ((0 : Int32)).toNatClampNeg x2) 92 ((1 : Int32)).toNatClampNeg (0 : Int32)) 92 ((2 : Int32)).toNatClampNeg (0 : Int32)) 92 ((3 : Int32)).toNatClampNeg (0 : Int32)) (fun (r2 : Int32) (s2 : bi_St) => ((¬ r2 = 0) → at_X12_inserts_104 X (d + 1) K E s2 (x0) ((0 : Int32))) ∧ (¬ (¬ r2 = 0) → K (0 : Int32) s2)) (fun _ _ => False))) ∧ (¬ ((st_g (st_p (st_p (st_p s1 92 ((0 : Int32)).toNatClampNeg x2) 92 ((1 : Int32)).toNatClampNeg (0 : Int32)) 92 ((2 : Int32)).toNatClampNeg (0 : Int32)) 77 28) ≤ (3 : Int32)) → bi_in (3 : Int32) 5 = true ∧ (cI X d 215 [.ref 77, .int x0, .int (1 : Int32), .int (1 : Int32)] (st_p (st_p (st_p (st_p s1 92 ((0 : Int32)).toNatClampNeg x2) 92 ((1 : Int32)).toNatClampNeg (0 : Int32)) 92 ((2 : Int32)).toNatClampNeg (0 : Int32)) 92 ((3 : Int32)).toNatClampNeg x5) (fun (r3 : Int32) (s3 : bi_St) => ((¬ r3 = 0) → at_X12_inserts_104 X (d + 1) K E s3 (x0) ((0 : Int32))) ∧ (¬ (¬ r3 = 0) → K (0 : Int32) s3)) (fun _ _ => False))))) ∧ (¬ ((st_g (st_p (st_p s1 92 ((0 : Int32)).toNatClampNeg x2) 92 ((1 : Int32)).toNatClampNeg (0 : Int32)) 77 28) ≤ (2 : Int32)) → bi_in (2 : Int32) 5 = true ∧ ((((st_g (st_p (st_p (st_p s1 92 ((0 : Int32)).toNatClampNeg x2) 92 ((1 : Int32)).toNatClampNeg (0 : Int32)) 92 ((2 : Int32)).toNatClampNeg x4) 77 28) ≤ (3 : Int32)) → bi_in (3 : Int32) 5 = true ∧ (cI X d 215 [.ref 77, .int x0, .int (1 : Int32), .int (1 : Int32)] (st_p (st_p (st_p (st_p s1 92 ((0 : Int32)).toNatClampNeg x2) 92 ((1 : Int32)).toNatClampNeg (0 : Int32)) 92 ((2 : Int32)).toNatClampNeg x4) 92 ((3 : Int32)).toNatClampNeg (0 : Int32)) (fun (r4 : Int32) (s4 : bi_St) => ((¬ r4 = 0) → at_X12_inserts_104 X (d + 1) K E s4 (x0) ((0 : Int32))) ∧ (¬ (¬ r4 = 0) → K (0 : Int32) s4)) (fun _ _ => False))) ∧ (¬ ((st_g (st_p (st_p (st_p s1 92 ((0 : Int32)).toNatClampNeg x2) 92 ((1 : Int32)).toNatClampNeg (0 : Int32)) 92 ((2 : Int32)).toNatClampNeg x4) 77 28) ≤ (3 : Int32)) → bi_in (3 : Int32) 5 = true ∧ (cI X d 215 [.ref 77, .int x0, .int (1 : Int32), .int (1 : Int32)] (st_p (st_p (st_p (st_p s1 92 ((0 : Int32)).toNatClampNeg x2) 92 ((1 : Int32)).toNatClampNeg (0 : Int32)) 92 ((2 : Int32)).toNatClampNeg x4) 92 ((3 : Int32)).toNatClampNeg x5) (fun (r5 : Int32) (s5 : bi_St) => ((¬ r5 = 0) → at_X12_inserts_104 X (d + 1) K E s5 (x0) ((0 : Int32))) ∧ (¬ (¬ r5 = 0) → K (0 : Int32) s5)) (fun _ _ => False))))))) ∧ (¬ ((st_g (st_p s1 92 ((0 : Int32)).toNatClampNeg x2) 77 28) ≤ (1 : Int32)) → bi_in (1 : Int32) 5 = true ∧ ((((st_g (st_p (st_p s1 92 ((0 : Int32)).toNatClampNeg x2) 92 ((1 : Int32)).toNatClampNeg x3) 77 28) ≤ (2 : Int32)) → bi_in (2 : Int32) 5 = true ∧ ((((st_g (st_p (st_p (st_p s1 92 ((0 : Int32)).toNatClampNeg x2) 92 ((1 : Int32)).toNatClampNeg x3) 92 ((2 : Int32)).toNatClampNeg (0 : Int32)) 77 28) ≤ (3 : Int32)) → bi_in (3 : Int32) 5 = true ∧ (cI X d 215 [.ref 77, .int x0, .int (1 : Int32), .int (1 : Int32)] (st_p (st_p (st_p (st_p s1 92 ((0 : Int32)).toNatClampNeg x2) 92 ((1 : Int32)).toNatClampNeg x3) 92 ((2 : Int32)).toNatClampNeg (0 : Int32)) 92 ((3 : Int32)).toNatClampNeg (0 : Int32)) (fun (r6 : Int32) (s6 : bi_St) => ((¬ r6 = 0) → at_X12_inserts_104 X (d + 1) K E s6 (x0) ((0 : Int32))) ∧ (¬ (¬ r6 = 0) → K (0 : Int32) s6)) (fun _ _ => False))) ∧ (¬ ((st_g (st_p (st_p (st_p s1 92 ((0 : Int32)).toNatClampNeg x2) 92 ((1 : Int32)).toNatClampNeg x3) 92 ((2 : Int32)).toNatClampNeg (0 : Int32)) 77 28) ≤ (3 : Int32)) → bi_in (3 : Int32) 5 = true ∧ (cI X d 215 [.ref 77, .int x0, .int (1 : Int32), .int (1 : Int32)] (st_p (st_p (st_p (st_p s1 92 ((0 : Int32)).toNatClampNeg x2) 92 ((1 : Int32)).toNatClampNeg x3) 92 ((2 : Int32)).toNatClampNeg (0 : Int32)) 92 ((3 : Int32)).toNatClampNeg x5) (fun (r7 : Int32) (s7 : bi_St) => ((¬ r7 = 0) → at_X12_inserts_104 X (d + 1) K E s7 (x0) ((0 : Int32))) ∧ (¬ (¬ r7 = 0) → K (0 : Int32) s7)) (fun _ _ => False))))) ∧ (¬ ((st_g (st_p (st_p s1 92 ((0 : Int32)).toNatClampNeg x2) 92 ((1 : Int32)).toNatClampNeg x3) 77 28) ≤ (2 : Int32)) → bi_in (2 : Int32) 5 = true ∧ ((((st_g (st_p (st_p (st_p s1 92 ((0 : Int32)).toNatClampNeg x2) 92 ((1 : Int32)).toNatClampNeg x3) 92 ((2 : Int32)).toNatClampNeg x4) 77 28) ≤ (3 : Int32)) → bi_in (3 : Int32) 5 = true ∧ (cI X d 215 [.ref 77, .int x0, .int (1 : Int32), .int (1 : Int32)] (st_p (st_p (st_p (st_p s1 92 ((0 : Int32)).toNatClampNeg x2) 92 ((1 : Int32)).toNatClampNeg x3) 92 ((2 : Int32)).toNatClampNeg x4) 92 ((3 : Int32)).toNatClampNeg (0 : Int32)) (fun (r8 : Int32) (s8 : bi_St) => ((¬ r8 = 0) → at_X12_inserts_104 X (d + 1) K E s8 (x0) ((0 : Int32))) ∧ (¬ (¬ r8 = 0) → K (0 : Int32) s8)) (fun _ _ => False))) ∧ (¬ ((st_g (st_p (st_p (st_p s1 92 ((0 : Int32)).toNatClampNeg x2) 92 ((1 : Int32)).toNatClampNeg x3) 92 ((2 : Int32)).toNatClampNeg x4) 77 28) ≤ (3 : Int32)) → bi_in (3 : Int32) 5 = true ∧ (cI X d 215 [.ref 77, .int x0, .int (1 : Int32), .int (1 : Int32)] (st_p (st_p (st_p (st_p s1 92 ((0 : Int32)).toNatClampNeg x2) 92 ((1 : Int32)).toNatClampNeg x3) 92 ((2 : Int32)).toNatClampNeg x4) 92 ((3 : Int32)).toNatClampNeg x5) (fun (r9 : Int32) (s9 : bi_St) => ((¬ r9 = 0) → at_X12_inserts_104 X (d + 1) K E s9 (x0) ((0 : Int32))) ∧ (¬ (¬ r9 = 0) → K (0 : Int32) s9)) (fun _ _ => False))))))))) (fun _ _ => False)) ∧ (¬ (¬ (st_g s 90 ((x0 + (7 : Int32))).toNatClampNeg) = (16 : Int32)) → K (0 : Int32) s))) : cI X (d + 1) 241 [.ref 77, .int x0, .int x1, .int x2, .int x3, .int x4, .int x5] s K E := by
  show bi_T _ _ _ _ _
  refine bi_Tr 5 (s' := (8, [(0, .ref 77), (1, .int x0), (2, .int x1), (3, .int x2), (4, .int x3), (5, .int x4), (6, .int x5)], [.int (x0 + (7 : Int32)), .ref 90], st_mm s)) rfl ?_
  obtain ⟨hi, h⟩ := h
  refine bi_Tial rfl rfl rfl hi ?_
  refine bi_Tr 2 (s' := ((if ¬ (st_g s 90 ((x0 + (7 : Int32))).toNatClampNeg) = (16 : Int32) then 16 else 14), [(0, .ref 77), (1, .int x0), (2, .int x1), (3, .int x2), (4, .int x3), (5, .int x4), (6, .int x5)], [], st_mm s)) rfl (bi_Tif (fun hc => ?_) (fun hc => ?_))
  · have h := h.1 hc
    refine bi_Tr 3 (s' := (19, [(0, .ref 77), (1, .int x0), (2, .int x1), (3, .int x2), (4, .int x3), (5, .int x4), (6, .int x5)], [.int x1, .int x0, .ref 77], st_mm s)) rfl ?_
    refine bi_TcV (as := [.ref 77, .int x0, .int x1]) rfl rfl ?_
    refine cV.mono h (fun s1 h => ?_) (fun _ _ h => h.elim)
    refine bi_Tr 4 (s' := (28, [(0, .ref 77), (1, .int x0), (2, .int x1), (3, .int x2), (4, .int x3), (5, .int x4), (6, .int x5)], [.int x2, .int (0 : Int32), .ref 92], st_mm s1)) rfl ?_
    obtain ⟨hi, h⟩ := h
    refine bi_Tias rfl rfl hi ?_
    refine bi_Tr 7 (s' := ((if (st_g (st_p s1 92 ((0 : Int32)).toNatClampNeg x2) 77 28) ≤ (1 : Int32) then 47 else 42), [(0, .ref 77), (1, .int x0), (2, .int x1), (3, .int x2), (4, .int x3), (5, .int x4), (6, .int x5)], [.int (1 : Int32), .ref 92], st_mm (st_p s1 92 ((0 : Int32)).toNatClampNeg x2))) rfl (bi_Tif (fun hc => ?_) (fun hc => ?_))
    · have h := h.1 hc
      refine bi_Tr 1 (s' := (48, [(0, .ref 77), (1, .int x0), (2, .int x1), (3, .int x2), (4, .int x3), (5, .int x4), (6, .int x5)], [.int (0 : Int32), .int (1 : Int32), .ref 92], st_mm (st_p s1 92 ((0 : Int32)).toNatClampNeg x2))) rfl ?_
      obtain ⟨hi, h⟩ := h
      refine bi_Tias rfl rfl hi ?_
      refine bi_Tr 7 (s' := ((if (st_g (st_p (st_p s1 92 ((0 : Int32)).toNatClampNeg x2) 92 ((1 : Int32)).toNatClampNeg (0 : Int32)) 77 28) ≤ (2 : Int32) then 67 else 62), [(0, .ref 77), (1, .int x0), (2, .int x1), (3, .int x2), (4, .int x3), (5, .int x4), (6, .int x5)], [.int (2 : Int32), .ref 92], st_mm (st_p (st_p s1 92 ((0 : Int32)).toNatClampNeg x2) 92 ((1 : Int32)).toNatClampNeg (0 : Int32)))) rfl (bi_Tif (fun hc => ?_) (fun hc => ?_))
      · have h := h.1 hc
        refine bi_Tr 1 (s' := (68, [(0, .ref 77), (1, .int x0), (2, .int x1), (3, .int x2), (4, .int x3), (5, .int x4), (6, .int x5)], [.int (0 : Int32), .int (2 : Int32), .ref 92], st_mm (st_p (st_p s1 92 ((0 : Int32)).toNatClampNeg x2) 92 ((1 : Int32)).toNatClampNeg (0 : Int32)))) rfl ?_
        obtain ⟨hi, h⟩ := h
        refine bi_Tias rfl rfl hi ?_
        refine bi_Tr 7 (s' := ((if (st_g (st_p (st_p (st_p s1 92 ((0 : Int32)).toNatClampNeg x2) 92 ((1 : Int32)).toNatClampNeg (0 : Int32)) 92 ((2 : Int32)).toNatClampNeg (0 : Int32)) 77 28) ≤ (3 : Int32) then 87 else 82), [(0, .ref 77), (1, .int x0), (2, .int x1), (3, .int x2), (4, .int x3), (5, .int x4), (6, .int x5)], [.int (3 : Int32), .ref 92], st_mm (st_p (st_p (st_p s1 92 ((0 : Int32)).toNatClampNeg x2) 92 ((1 : Int32)).toNatClampNeg (0 : Int32)) 92 ((2 : Int32)).toNatClampNeg (0 : Int32)))) rfl (bi_Tif (fun hc => ?_) (fun hc => ?_))
        · have h := h.1 hc
          refine bi_Tr 1 (s' := (88, [(0, .ref 77), (1, .int x0), (2, .int x1), (3, .int x2), (4, .int x3), (5, .int x4), (6, .int x5)], [.int (0 : Int32), .int (3 : Int32), .ref 92], st_mm (st_p (st_p (st_p s1 92 ((0 : Int32)).toNatClampNeg x2) 92 ((1 : Int32)).toNatClampNeg (0 : Int32)) 92 ((2 : Int32)).toNatClampNeg (0 : Int32)))) rfl ?_
          obtain ⟨hi, h⟩ := h
          refine bi_Tias rfl rfl hi ?_
          refine bi_Tr 4 (s' := (93, [(0, .ref 77), (1, .int x0), (2, .int x1), (3, .int x2), (4, .int x3), (5, .int x4), (6, .int x5)], [.int (1 : Int32), .int (1 : Int32), .int x0, .ref 77], st_mm (st_p (st_p (st_p (st_p s1 92 ((0 : Int32)).toNatClampNeg x2) 92 ((1 : Int32)).toNatClampNeg (0 : Int32)) 92 ((2 : Int32)).toNatClampNeg (0 : Int32)) 92 ((3 : Int32)).toNatClampNeg (0 : Int32)))) rfl ?_
          refine bi_TcI (as := [.ref 77, .int x0, .int (1 : Int32), .int (1 : Int32)]) rfl rfl ?_
          refine cI.mono h (fun r2 s2 h => ?_) (fun _ _ h => h.elim)
          refine bi_Tr 1 (s' := ((if ¬ r2 = 0 then 101 else 99), [(0, .ref 77), (1, .int x0), (2, .int x1), (3, .int x2), (4, .int x3), (5, .int x4), (6, .int x5)], [], st_mm s2)) rfl (bi_Tif (fun hc => ?_) (fun hc => ?_))
          · have h := h.1 hc
            refine bi_Tr 2 (s' := (104, [(7, .int (0 : Int32)), (0, .ref 77), (1, .int x0), (2, .int x1), (3, .int x2), (4, .int x3), (5, .int x4), (6, .int x5)], [], st_mm s2)) rfl ?_
            exact bi_Tww h rfl rfl ⟨rfl, rfl, rfl, trivial⟩
          · have h := h.2 hc
            refine bi_Tr 1 (s' := (100, [(0, .ref 77), (1, .int x0), (2, .int x1), (3, .int x2), (4, .int x3), (5, .int x4), (6, .int x5)], [.int (0 : Int32)], st_mm s2)) rfl ?_
            exact bi_Tv rfl rfl (Or.inl ⟨_, _, rfl, h⟩)
        · have h := h.2 hc
          refine bi_Tr 2 (s' := (88, [(0, .ref 77), (1, .int x0), (2, .int x1), (3, .int x2), (4, .int x3), (5, .int x4), (6, .int x5)], [.int x5, .int (3 : Int32), .ref 92], st_mm (st_p (st_p (st_p s1 92 ((0 : Int32)).toNatClampNeg x2) 92 ((1 : Int32)).toNatClampNeg (0 : Int32)) 92 ((2 : Int32)).toNatClampNeg (0 : Int32)))) rfl ?_
          obtain ⟨hi, h⟩ := h
          refine bi_Tias rfl rfl hi ?_
          refine bi_Tr 4 (s' := (93, [(0, .ref 77), (1, .int x0), (2, .int x1), (3, .int x2), (4, .int x3), (5, .int x4), (6, .int x5)], [.int (1 : Int32), .int (1 : Int32), .int x0, .ref 77], st_mm (st_p (st_p (st_p (st_p s1 92 ((0 : Int32)).toNatClampNeg x2) 92 ((1 : Int32)).toNatClampNeg (0 : Int32)) 92 ((2 : Int32)).toNatClampNeg (0 : Int32)) 92 ((3 : Int32)).toNatClampNeg x5))) rfl ?_
          refine bi_TcI (as := [.ref 77, .int x0, .int (1 : Int32), .int (1 : Int32)]) rfl rfl ?_
          refine cI.mono h (fun r3 s3 h => ?_) (fun _ _ h => h.elim)
          refine bi_Tr 1 (s' := ((if ¬ r3 = 0 then 101 else 99), [(0, .ref 77), (1, .int x0), (2, .int x1), (3, .int x2), (4, .int x3), (5, .int x4), (6, .int x5)], [], st_mm s3)) rfl (bi_Tif (fun hc => ?_) (fun hc => ?_))
          · have h := h.1 hc
            refine bi_Tr 2 (s' := (104, [(7, .int (0 : Int32)), (0, .ref 77), (1, .int x0), (2, .int x1), (3, .int x2), (4, .int x3), (5, .int x4), (6, .int x5)], [], st_mm s3)) rfl ?_
            exact bi_Tww h rfl rfl ⟨rfl, rfl, rfl, trivial⟩
          · have h := h.2 hc
            refine bi_Tr 1 (s' := (100, [(0, .ref 77), (1, .int x0), (2, .int x1), (3, .int x2), (4, .int x3), (5, .int x4), (6, .int x5)], [.int (0 : Int32)], st_mm s3)) rfl ?_
            exact bi_Tv rfl rfl (Or.inl ⟨_, _, rfl, h⟩)
      · have h := h.2 hc
        refine bi_Tr 2 (s' := (68, [(0, .ref 77), (1, .int x0), (2, .int x1), (3, .int x2), (4, .int x3), (5, .int x4), (6, .int x5)], [.int x4, .int (2 : Int32), .ref 92], st_mm (st_p (st_p s1 92 ((0 : Int32)).toNatClampNeg x2) 92 ((1 : Int32)).toNatClampNeg (0 : Int32)))) rfl ?_
        obtain ⟨hi, h⟩ := h
        refine bi_Tias rfl rfl hi ?_
        refine bi_Tr 7 (s' := ((if (st_g (st_p (st_p (st_p s1 92 ((0 : Int32)).toNatClampNeg x2) 92 ((1 : Int32)).toNatClampNeg (0 : Int32)) 92 ((2 : Int32)).toNatClampNeg x4) 77 28) ≤ (3 : Int32) then 87 else 82), [(0, .ref 77), (1, .int x0), (2, .int x1), (3, .int x2), (4, .int x3), (5, .int x4), (6, .int x5)], [.int (3 : Int32), .ref 92], st_mm (st_p (st_p (st_p s1 92 ((0 : Int32)).toNatClampNeg x2) 92 ((1 : Int32)).toNatClampNeg (0 : Int32)) 92 ((2 : Int32)).toNatClampNeg x4))) rfl (bi_Tif (fun hc => ?_) (fun hc => ?_))
        · have h := h.1 hc
          refine bi_Tr 1 (s' := (88, [(0, .ref 77), (1, .int x0), (2, .int x1), (3, .int x2), (4, .int x3), (5, .int x4), (6, .int x5)], [.int (0 : Int32), .int (3 : Int32), .ref 92], st_mm (st_p (st_p (st_p s1 92 ((0 : Int32)).toNatClampNeg x2) 92 ((1 : Int32)).toNatClampNeg (0 : Int32)) 92 ((2 : Int32)).toNatClampNeg x4))) rfl ?_
          obtain ⟨hi, h⟩ := h
          refine bi_Tias rfl rfl hi ?_
          refine bi_Tr 4 (s' := (93, [(0, .ref 77), (1, .int x0), (2, .int x1), (3, .int x2), (4, .int x3), (5, .int x4), (6, .int x5)], [.int (1 : Int32), .int (1 : Int32), .int x0, .ref 77], st_mm (st_p (st_p (st_p (st_p s1 92 ((0 : Int32)).toNatClampNeg x2) 92 ((1 : Int32)).toNatClampNeg (0 : Int32)) 92 ((2 : Int32)).toNatClampNeg x4) 92 ((3 : Int32)).toNatClampNeg (0 : Int32)))) rfl ?_
          refine bi_TcI (as := [.ref 77, .int x0, .int (1 : Int32), .int (1 : Int32)]) rfl rfl ?_
          refine cI.mono h (fun r4 s4 h => ?_) (fun _ _ h => h.elim)
          refine bi_Tr 1 (s' := ((if ¬ r4 = 0 then 101 else 99), [(0, .ref 77), (1, .int x0), (2, .int x1), (3, .int x2), (4, .int x3), (5, .int x4), (6, .int x5)], [], st_mm s4)) rfl (bi_Tif (fun hc => ?_) (fun hc => ?_))
          · have h := h.1 hc
            refine bi_Tr 2 (s' := (104, [(7, .int (0 : Int32)), (0, .ref 77), (1, .int x0), (2, .int x1), (3, .int x2), (4, .int x3), (5, .int x4), (6, .int x5)], [], st_mm s4)) rfl ?_
            exact bi_Tww h rfl rfl ⟨rfl, rfl, rfl, trivial⟩
          · have h := h.2 hc
            refine bi_Tr 1 (s' := (100, [(0, .ref 77), (1, .int x0), (2, .int x1), (3, .int x2), (4, .int x3), (5, .int x4), (6, .int x5)], [.int (0 : Int32)], st_mm s4)) rfl ?_
            exact bi_Tv rfl rfl (Or.inl ⟨_, _, rfl, h⟩)
        · have h := h.2 hc
          refine bi_Tr 2 (s' := (88, [(0, .ref 77), (1, .int x0), (2, .int x1), (3, .int x2), (4, .int x3), (5, .int x4), (6, .int x5)], [.int x5, .int (3 : Int32), .ref 92], st_mm (st_p (st_p (st_p s1 92 ((0 : Int32)).toNatClampNeg x2) 92 ((1 : Int32)).toNatClampNeg (0 : Int32)) 92 ((2 : Int32)).toNatClampNeg x4))) rfl ?_
          obtain ⟨hi, h⟩ := h
          refine bi_Tias rfl rfl hi ?_
          refine bi_Tr 4 (s' := (93, [(0, .ref 77), (1, .int x0), (2, .int x1), (3, .int x2), (4, .int x3), (5, .int x4), (6, .int x5)], [.int (1 : Int32), .int (1 : Int32), .int x0, .ref 77], st_mm (st_p (st_p (st_p (st_p s1 92 ((0 : Int32)).toNatClampNeg x2) 92 ((1 : Int32)).toNatClampNeg (0 : Int32)) 92 ((2 : Int32)).toNatClampNeg x4) 92 ((3 : Int32)).toNatClampNeg x5))) rfl ?_
          refine bi_TcI (as := [.ref 77, .int x0, .int (1 : Int32), .int (1 : Int32)]) rfl rfl ?_
          refine cI.mono h (fun r5 s5 h => ?_) (fun _ _ h => h.elim)
          refine bi_Tr 1 (s' := ((if ¬ r5 = 0 then 101 else 99), [(0, .ref 77), (1, .int x0), (2, .int x1), (3, .int x2), (4, .int x3), (5, .int x4), (6, .int x5)], [], st_mm s5)) rfl (bi_Tif (fun hc => ?_) (fun hc => ?_))
          · have h := h.1 hc
            refine bi_Tr 2 (s' := (104, [(7, .int (0 : Int32)), (0, .ref 77), (1, .int x0), (2, .int x1), (3, .int x2), (4, .int x3), (5, .int x4), (6, .int x5)], [], st_mm s5)) rfl ?_
            exact bi_Tww h rfl rfl ⟨rfl, rfl, rfl, trivial⟩
          · have h := h.2 hc
            refine bi_Tr 1 (s' := (100, [(0, .ref 77), (1, .int x0), (2, .int x1), (3, .int x2), (4, .int x3), (5, .int x4), (6, .int x5)], [.int (0 : Int32)], st_mm s5)) rfl ?_
            exact bi_Tv rfl rfl (Or.inl ⟨_, _, rfl, h⟩)
    · have h := h.2 hc
      refine bi_Tr 2 (s' := (48, [(0, .ref 77), (1, .int x0), (2, .int x1), (3, .int x2), (4, .int x3), (5, .int x4), (6, .int x5)], [.int x3, .int (1 : Int32), .ref 92], st_mm (st_p s1 92 ((0 : Int32)).toNatClampNeg x2))) rfl ?_
      obtain ⟨hi, h⟩ := h
      refine bi_Tias rfl rfl hi ?_
      refine bi_Tr 7 (s' := ((if (st_g (st_p (st_p s1 92 ((0 : Int32)).toNatClampNeg x2) 92 ((1 : Int32)).toNatClampNeg x3) 77 28) ≤ (2 : Int32) then 67 else 62), [(0, .ref 77), (1, .int x0), (2, .int x1), (3, .int x2), (4, .int x3), (5, .int x4), (6, .int x5)], [.int (2 : Int32), .ref 92], st_mm (st_p (st_p s1 92 ((0 : Int32)).toNatClampNeg x2) 92 ((1 : Int32)).toNatClampNeg x3))) rfl (bi_Tif (fun hc => ?_) (fun hc => ?_))
      · have h := h.1 hc
        refine bi_Tr 1 (s' := (68, [(0, .ref 77), (1, .int x0), (2, .int x1), (3, .int x2), (4, .int x3), (5, .int x4), (6, .int x5)], [.int (0 : Int32), .int (2 : Int32), .ref 92], st_mm (st_p (st_p s1 92 ((0 : Int32)).toNatClampNeg x2) 92 ((1 : Int32)).toNatClampNeg x3))) rfl ?_
        obtain ⟨hi, h⟩ := h
        refine bi_Tias rfl rfl hi ?_
        refine bi_Tr 7 (s' := ((if (st_g (st_p (st_p (st_p s1 92 ((0 : Int32)).toNatClampNeg x2) 92 ((1 : Int32)).toNatClampNeg x3) 92 ((2 : Int32)).toNatClampNeg (0 : Int32)) 77 28) ≤ (3 : Int32) then 87 else 82), [(0, .ref 77), (1, .int x0), (2, .int x1), (3, .int x2), (4, .int x3), (5, .int x4), (6, .int x5)], [.int (3 : Int32), .ref 92], st_mm (st_p (st_p (st_p s1 92 ((0 : Int32)).toNatClampNeg x2) 92 ((1 : Int32)).toNatClampNeg x3) 92 ((2 : Int32)).toNatClampNeg (0 : Int32)))) rfl (bi_Tif (fun hc => ?_) (fun hc => ?_))
        · have h := h.1 hc
          refine bi_Tr 1 (s' := (88, [(0, .ref 77), (1, .int x0), (2, .int x1), (3, .int x2), (4, .int x3), (5, .int x4), (6, .int x5)], [.int (0 : Int32), .int (3 : Int32), .ref 92], st_mm (st_p (st_p (st_p s1 92 ((0 : Int32)).toNatClampNeg x2) 92 ((1 : Int32)).toNatClampNeg x3) 92 ((2 : Int32)).toNatClampNeg (0 : Int32)))) rfl ?_
          obtain ⟨hi, h⟩ := h
          refine bi_Tias rfl rfl hi ?_
          refine bi_Tr 4 (s' := (93, [(0, .ref 77), (1, .int x0), (2, .int x1), (3, .int x2), (4, .int x3), (5, .int x4), (6, .int x5)], [.int (1 : Int32), .int (1 : Int32), .int x0, .ref 77], st_mm (st_p (st_p (st_p (st_p s1 92 ((0 : Int32)).toNatClampNeg x2) 92 ((1 : Int32)).toNatClampNeg x3) 92 ((2 : Int32)).toNatClampNeg (0 : Int32)) 92 ((3 : Int32)).toNatClampNeg (0 : Int32)))) rfl ?_
          refine bi_TcI (as := [.ref 77, .int x0, .int (1 : Int32), .int (1 : Int32)]) rfl rfl ?_
          refine cI.mono h (fun r6 s6 h => ?_) (fun _ _ h => h.elim)
          refine bi_Tr 1 (s' := ((if ¬ r6 = 0 then 101 else 99), [(0, .ref 77), (1, .int x0), (2, .int x1), (3, .int x2), (4, .int x3), (5, .int x4), (6, .int x5)], [], st_mm s6)) rfl (bi_Tif (fun hc => ?_) (fun hc => ?_))
          · have h := h.1 hc
            refine bi_Tr 2 (s' := (104, [(7, .int (0 : Int32)), (0, .ref 77), (1, .int x0), (2, .int x1), (3, .int x2), (4, .int x3), (5, .int x4), (6, .int x5)], [], st_mm s6)) rfl ?_
            exact bi_Tww h rfl rfl ⟨rfl, rfl, rfl, trivial⟩
          · have h := h.2 hc
            refine bi_Tr 1 (s' := (100, [(0, .ref 77), (1, .int x0), (2, .int x1), (3, .int x2), (4, .int x3), (5, .int x4), (6, .int x5)], [.int (0 : Int32)], st_mm s6)) rfl ?_
            exact bi_Tv rfl rfl (Or.inl ⟨_, _, rfl, h⟩)
        · have h := h.2 hc
          refine bi_Tr 2 (s' := (88, [(0, .ref 77), (1, .int x0), (2, .int x1), (3, .int x2), (4, .int x3), (5, .int x4), (6, .int x5)], [.int x5, .int (3 : Int32), .ref 92], st_mm (st_p (st_p (st_p s1 92 ((0 : Int32)).toNatClampNeg x2) 92 ((1 : Int32)).toNatClampNeg x3) 92 ((2 : Int32)).toNatClampNeg (0 : Int32)))) rfl ?_
          obtain ⟨hi, h⟩ := h
          refine bi_Tias rfl rfl hi ?_
          refine bi_Tr 4 (s' := (93, [(0, .ref 77), (1, .int x0), (2, .int x1), (3, .int x2), (4, .int x3), (5, .int x4), (6, .int x5)], [.int (1 : Int32), .int (1 : Int32), .int x0, .ref 77], st_mm (st_p (st_p (st_p (st_p s1 92 ((0 : Int32)).toNatClampNeg x2) 92 ((1 : Int32)).toNatClampNeg x3) 92 ((2 : Int32)).toNatClampNeg (0 : Int32)) 92 ((3 : Int32)).toNatClampNeg x5))) rfl ?_
          refine bi_TcI (as := [.ref 77, .int x0, .int (1 : Int32), .int (1 : Int32)]) rfl rfl ?_
          refine cI.mono h (fun r7 s7 h => ?_) (fun _ _ h => h.elim)
          refine bi_Tr 1 (s' := ((if ¬ r7 = 0 then 101 else 99), [(0, .ref 77), (1, .int x0), (2, .int x1), (3, .int x2), (4, .int x3), (5, .int x4), (6, .int x5)], [], st_mm s7)) rfl (bi_Tif (fun hc => ?_) (fun hc => ?_))
          · have h := h.1 hc
            refine bi_Tr 2 (s' := (104, [(7, .int (0 : Int32)), (0, .ref 77), (1, .int x0), (2, .int x1), (3, .int x2), (4, .int x3), (5, .int x4), (6, .int x5)], [], st_mm s7)) rfl ?_
            exact bi_Tww h rfl rfl ⟨rfl, rfl, rfl, trivial⟩
          · have h := h.2 hc
            refine bi_Tr 1 (s' := (100, [(0, .ref 77), (1, .int x0), (2, .int x1), (3, .int x2), (4, .int x3), (5, .int x4), (6, .int x5)], [.int (0 : Int32)], st_mm s7)) rfl ?_
            exact bi_Tv rfl rfl (Or.inl ⟨_, _, rfl, h⟩)
      · have h := h.2 hc
        refine bi_Tr 2 (s' := (68, [(0, .ref 77), (1, .int x0), (2, .int x1), (3, .int x2), (4, .int x3), (5, .int x4), (6, .int x5)], [.int x4, .int (2 : Int32), .ref 92], st_mm (st_p (st_p s1 92 ((0 : Int32)).toNatClampNeg x2) 92 ((1 : Int32)).toNatClampNeg x3))) rfl ?_
        obtain ⟨hi, h⟩ := h
        refine bi_Tias rfl rfl hi ?_
        refine bi_Tr 7 (s' := ((if (st_g (st_p (st_p (st_p s1 92 ((0 : Int32)).toNatClampNeg x2) 92 ((1 : Int32)).toNatClampNeg x3) 92 ((2 : Int32)).toNatClampNeg x4) 77 28) ≤ (3 : Int32) then 87 else 82), [(0, .ref 77), (1, .int x0), (2, .int x1), (3, .int x2), (4, .int x3), (5, .int x4), (6, .int x5)], [.int (3 : Int32), .ref 92], st_mm (st_p (st_p (st_p s1 92 ((0 : Int32)).toNatClampNeg x2) 92 ((1 : Int32)).toNatClampNeg x3) 92 ((2 : Int32)).toNatClampNeg x4))) rfl (bi_Tif (fun hc => ?_) (fun hc => ?_))
        · have h := h.1 hc
          refine bi_Tr 1 (s' := (88, [(0, .ref 77), (1, .int x0), (2, .int x1), (3, .int x2), (4, .int x3), (5, .int x4), (6, .int x5)], [.int (0 : Int32), .int (3 : Int32), .ref 92], st_mm (st_p (st_p (st_p s1 92 ((0 : Int32)).toNatClampNeg x2) 92 ((1 : Int32)).toNatClampNeg x3) 92 ((2 : Int32)).toNatClampNeg x4))) rfl ?_
          obtain ⟨hi, h⟩ := h
          refine bi_Tias rfl rfl hi ?_
          refine bi_Tr 4 (s' := (93, [(0, .ref 77), (1, .int x0), (2, .int x1), (3, .int x2), (4, .int x3), (5, .int x4), (6, .int x5)], [.int (1 : Int32), .int (1 : Int32), .int x0, .ref 77], st_mm (st_p (st_p (st_p (st_p s1 92 ((0 : Int32)).toNatClampNeg x2) 92 ((1 : Int32)).toNatClampNeg x3) 92 ((2 : Int32)).toNatClampNeg x4) 92 ((3 : Int32)).toNatClampNeg (0 : Int32)))) rfl ?_
          refine bi_TcI (as := [.ref 77, .int x0, .int (1 : Int32), .int (1 : Int32)]) rfl rfl ?_
          refine cI.mono h (fun r8 s8 h => ?_) (fun _ _ h => h.elim)
          refine bi_Tr 1 (s' := ((if ¬ r8 = 0 then 101 else 99), [(0, .ref 77), (1, .int x0), (2, .int x1), (3, .int x2), (4, .int x3), (5, .int x4), (6, .int x5)], [], st_mm s8)) rfl (bi_Tif (fun hc => ?_) (fun hc => ?_))
          · have h := h.1 hc
            refine bi_Tr 2 (s' := (104, [(7, .int (0 : Int32)), (0, .ref 77), (1, .int x0), (2, .int x1), (3, .int x2), (4, .int x3), (5, .int x4), (6, .int x5)], [], st_mm s8)) rfl ?_
            exact bi_Tww h rfl rfl ⟨rfl, rfl, rfl, trivial⟩
          · have h := h.2 hc
            refine bi_Tr 1 (s' := (100, [(0, .ref 77), (1, .int x0), (2, .int x1), (3, .int x2), (4, .int x3), (5, .int x4), (6, .int x5)], [.int (0 : Int32)], st_mm s8)) rfl ?_
            exact bi_Tv rfl rfl (Or.inl ⟨_, _, rfl, h⟩)
        · have h := h.2 hc
          refine bi_Tr 2 (s' := (88, [(0, .ref 77), (1, .int x0), (2, .int x1), (3, .int x2), (4, .int x3), (5, .int x4), (6, .int x5)], [.int x5, .int (3 : Int32), .ref 92], st_mm (st_p (st_p (st_p s1 92 ((0 : Int32)).toNatClampNeg x2) 92 ((1 : Int32)).toNatClampNeg x3) 92 ((2 : Int32)).toNatClampNeg x4))) rfl ?_
          obtain ⟨hi, h⟩ := h
          refine bi_Tias rfl rfl hi ?_
          refine bi_Tr 4 (s' := (93, [(0, .ref 77), (1, .int x0), (2, .int x1), (3, .int x2), (4, .int x3), (5, .int x4), (6, .int x5)], [.int (1 : Int32), .int (1 : Int32), .int x0, .ref 77], st_mm (st_p (st_p (st_p (st_p s1 92 ((0 : Int32)).toNatClampNeg x2) 92 ((1 : Int32)).toNatClampNeg x3) 92 ((2 : Int32)).toNatClampNeg x4) 92 ((3 : Int32)).toNatClampNeg x5))) rfl ?_
          refine bi_TcI (as := [.ref 77, .int x0, .int (1 : Int32), .int (1 : Int32)]) rfl rfl ?_
          refine cI.mono h (fun r9 s9 h => ?_) (fun _ _ h => h.elim)
          refine bi_Tr 1 (s' := ((if ¬ r9 = 0 then 101 else 99), [(0, .ref 77), (1, .int x0), (2, .int x1), (3, .int x2), (4, .int x3), (5, .int x4), (6, .int x5)], [], st_mm s9)) rfl (bi_Tif (fun hc => ?_) (fun hc => ?_))
          · have h := h.1 hc
            refine bi_Tr 2 (s' := (104, [(7, .int (0 : Int32)), (0, .ref 77), (1, .int x0), (2, .int x1), (3, .int x2), (4, .int x3), (5, .int x4), (6, .int x5)], [], st_mm s9)) rfl ?_
            exact bi_Tww h rfl rfl ⟨rfl, rfl, rfl, trivial⟩
          · have h := h.2 hc
            refine bi_Tr 1 (s' := (100, [(0, .ref 77), (1, .int x0), (2, .int x1), (3, .int x2), (4, .int x3), (5, .int x4), (6, .int x5)], [.int (0 : Int32)], st_mm s9)) rfl ?_
            exact bi_Tv rfl rfl (Or.inl ⟨_, _, rfl, h⟩)
  · have h := h.2 hc
    refine bi_Tr 1 (s' := (15, [(0, .ref 77), (1, .int x0), (2, .int x1), (3, .int x2), (4, .int x3), (5, .int x4), (6, .int x5)], [.int (0 : Int32)], st_mm s)) rfl ?_
    exact bi_Tv rfl rfl (Or.inl ⟨_, _, rfl, h⟩)
/-- PolicyRowsModel.isUsed(IIII)Z -/
theorem en_X12_isUsed {X : bi_X} {d : Nat} {K : Int32 → bi_St → Prop} {E : Nat → bi_St → Prop} {s : bi_St} {x0 : Int32} {x1 : Int32} {x2 : Int32} {x3 : Int32}  (h : ((x2 < 0) → K (0 : Int32) s) ∧ (¬ (x2 < 0) → bi_in (x0 + (7 : Int32)) 144 = true ∧ ((((st_g s 90 ((x0 + (7 : Int32))).toNatClampNeg) ≤ x2) → K (0 : Int32) s) ∧ (¬ ((st_g s 90 ((x0 + (7 : Int32))).toNatClampNeg) ≤ x2) → cI X d 216 [.ref 77, .int x0, .int x1, .int x2] s (fun (r1 : Int32) (s1 : bi_St) => ((¬ r1 = 0) → cV X d 211 [.ref 77, .int x0, .int x1] s1 (fun (s2 : bi_St) => cV X d 212 [.ref 77, .int x0, .int x2] s2 (fun (s3 : bi_St) => cI X d 215 [.ref 77, .int x0, .int x3, .int (0 : Int32)] s3 (fun (r4 : Int32) (s4 : bi_St) => bi_bool r4 = true ∧ (K r4 s4)) (fun _ _ => False)) (fun _ _ => False)) (fun _ _ => False)) ∧ (¬ (¬ r1 = 0) → K (0 : Int32) s1)) (fun _ _ => False))))) : cI X (d + 1) 242 [.ref 77, .int x0, .int x1, .int x2, .int x3] s K E := by
  show bi_T _ _ _ _ _
  refine bi_Tr 2 (s' := ((if x2 < 0 then 27 else 4), [(0, .ref 77), (1, .int x0), (2, .int x1), (3, .int x2), (4, .int x3)], [], st_mm s)) rfl (bi_Tif (fun hc => ?_) (fun hc => ?_))
  · have h := h.1 hc
    refine bi_Tr 1 (s' := (28, [(0, .ref 77), (1, .int x0), (2, .int x1), (3, .int x2), (4, .int x3)], [.int (0 : Int32)], st_mm s)) rfl ?_
    exact bi_Tv rfl rfl (Or.inl ⟨_, _, rfl, h⟩)
  · have h := h.2 hc
    refine bi_Tr 6 (s' := (13, [(0, .ref 77), (1, .int x0), (2, .int x1), (3, .int x2), (4, .int x3)], [.int (x0 + (7 : Int32)), .ref 90, .int x2], st_mm s)) rfl ?_
    obtain ⟨hi, h⟩ := h
    refine bi_Tial rfl rfl rfl hi ?_
    refine bi_Tr 1 (s' := ((if (st_g s 90 ((x0 + (7 : Int32))).toNatClampNeg) ≤ x2 then 27 else 17), [(0, .ref 77), (1, .int x0), (2, .int x1), (3, .int x2), (4, .int x3)], [], st_mm s)) rfl (bi_Tif (fun hc => ?_) (fun hc => ?_))
    · have h := h.1 hc
      refine bi_Tr 1 (s' := (28, [(0, .ref 77), (1, .int x0), (2, .int x1), (3, .int x2), (4, .int x3)], [.int (0 : Int32)], st_mm s)) rfl ?_
      exact bi_Tv rfl rfl (Or.inl ⟨_, _, rfl, h⟩)
    · have h := h.2 hc
      refine bi_Tr 4 (s' := (21, [(0, .ref 77), (1, .int x0), (2, .int x1), (3, .int x2), (4, .int x3)], [.int x2, .int x1, .int x0, .ref 77], st_mm s)) rfl ?_
      refine bi_TcI (as := [.ref 77, .int x0, .int x1, .int x2]) rfl rfl ?_
      refine cI.mono h (fun r1 s1 h => ?_) (fun _ _ h => h.elim)
      refine bi_Tr 1 (s' := ((if ¬ r1 = 0 then 29 else 27), [(0, .ref 77), (1, .int x0), (2, .int x1), (3, .int x2), (4, .int x3)], [], st_mm s1)) rfl (bi_Tif (fun hc => ?_) (fun hc => ?_))
      · have h := h.1 hc
        refine bi_Tr 3 (s' := (32, [(0, .ref 77), (1, .int x0), (2, .int x1), (3, .int x2), (4, .int x3)], [.int x1, .int x0, .ref 77], st_mm s1)) rfl ?_
        refine bi_TcV (as := [.ref 77, .int x0, .int x1]) rfl rfl ?_
        refine cV.mono h (fun s2 h => ?_) (fun _ _ h => h.elim)
        refine bi_Tr 3 (s' := (38, [(0, .ref 77), (1, .int x0), (2, .int x1), (3, .int x2), (4, .int x3)], [.int x2, .int x0, .ref 77], st_mm s2)) rfl ?_
        refine bi_TcV (as := [.ref 77, .int x0, .int x2]) rfl rfl ?_
        refine cV.mono h (fun s3 h => ?_) (fun _ _ h => h.elim)
        refine bi_Tr 4 (s' := (46, [(0, .ref 77), (1, .int x0), (2, .int x1), (3, .int x2), (4, .int x3)], [.int (0 : Int32), .int x3, .int x0, .ref 77], st_mm s3)) rfl ?_
        refine bi_TcI (as := [.ref 77, .int x0, .int x3, .int (0 : Int32)]) rfl rfl ?_
        refine cI.mono h (fun r4 s4 h => ?_) (fun _ _ h => h.elim)
        obtain ⟨hi, h⟩ := h
        exact bi_Tv rfl hi (Or.inl ⟨_, _, rfl, h⟩)
      · have h := h.2 hc
        refine bi_Tr 1 (s' := (28, [(0, .ref 77), (1, .int x0), (2, .int x1), (3, .int x2), (4, .int x3)], [.int (0 : Int32)], st_mm s1)) rfl ?_
        exact bi_Tv rfl rfl (Or.inl ⟨_, _, rfl, h⟩)
/-- PolicyRowsModel.isChecked(IIIII)Z -/
theorem en_X12_isChecked {X : bi_X} {d : Nat} {K : Int32 → bi_St → Prop} {E : Nat → bi_St → Prop} {s : bi_St} {x0 : Int32} {x1 : Int32} {x2 : Int32} {x3 : Int32} {x4 : Int32}  (h : cV X d 211 [.ref 77, .int x0, .int x1] s (fun (s1 : bi_St) => cV X d 212 [.ref 77, .int x0, .int x2] s1 (fun (s2 : bi_St) => bi_in x3 5 = true ∧ (cI X d 215 [.ref 77, .int x0, .int (2 : Int32), .int (1 : Int32)] (st_p s2 92 (x3).toNatClampNeg x4) (fun (r3 : Int32) (s3 : bi_St) => bi_bool r3 = true ∧ (K r3 s3)) (fun _ _ => False))) (fun _ _ => False)) (fun _ _ => False)) : cI X (d + 1) 243 [.ref 77, .int x0, .int x1, .int x2, .int x3, .int x4] s K E := by
  show bi_T _ _ _ _ _
  refine bi_Tr 3 (s' := (3, [(0, .ref 77), (1, .int x0), (2, .int x1), (3, .int x2), (4, .int x3), (5, .int x4)], [.int x1, .int x0, .ref 77], st_mm s)) rfl ?_
  refine bi_TcV (as := [.ref 77, .int x0, .int x1]) rfl rfl ?_
  refine cV.mono h (fun s1 h => ?_) (fun _ _ h => h.elim)
  refine bi_Tr 3 (s' := (9, [(0, .ref 77), (1, .int x0), (2, .int x1), (3, .int x2), (4, .int x3), (5, .int x4)], [.int x2, .int x0, .ref 77], st_mm s1)) rfl ?_
  refine bi_TcV (as := [.ref 77, .int x0, .int x2]) rfl rfl ?_
  refine cV.mono h (fun s2 h => ?_) (fun _ _ h => h.elim)
  refine bi_Tr 4 (s' := (20, [(0, .ref 77), (1, .int x0), (2, .int x1), (3, .int x2), (4, .int x3), (5, .int x4)], [.int x4, .int x3, .ref 92], st_mm s2)) rfl ?_
  obtain ⟨hi, h⟩ := h
  refine bi_Tias rfl rfl hi ?_
  refine bi_Tr 4 (s' := (25, [(0, .ref 77), (1, .int x0), (2, .int x1), (3, .int x2), (4, .int x3), (5, .int x4)], [.int (1 : Int32), .int (2 : Int32), .int x0, .ref 77], st_mm (st_p s2 92 (x3).toNatClampNeg x4))) rfl ?_
  refine bi_TcI (as := [.ref 77, .int x0, .int (2 : Int32), .int (1 : Int32)]) rfl rfl ?_
  refine cI.mono h (fun r3 s3 h => ?_) (fun _ _ h => h.elim)
  obtain ⟨hi, h⟩ := h
  exact bi_Tv rfl hi (Or.inl ⟨_, _, rfl, h⟩)
def at_X12_deletes_7 (X : bi_X) (d : Nat) (K : bi_St → Prop) (E : Nat → bi_St → Prop) (s : bi_St) (y1 : Int32) (y3 : Int32) : Prop := bi_T X d 244 (7, [(0, .ref 77), (1, .int y1), (3, .int y3)], [], st_mm s) (st_RV K E)
def at_X12_deletes_66 (X : bi_X) (d : Nat) (K : bi_St → Prop) (E : Nat → bi_St → Prop) (s : bi_St) (y1 : Int32) (y3 : Int32) : Prop := bi_T X d 244 (66, [(0, .ref 77), (1, .int y1), (3, .int y3)], [], st_mm s) (st_RV K E)
theorem go_X12_deletes_7 {X : bi_X} {d : Nat} {K : bi_St → Prop} {E : Nat → bi_St → Prop}  {s : bi_St} {y1 : Int32} {y3 : Int32}  (h : bi_in (y1 + (7 : Int32)) 144 = true ∧ (((((8 : Int32) + ((4 : Int32) * ((st_g s 90 ((y1 + (7 : Int32))).toNatClampNeg) - (1 : Int32)))) ≤ y3) → bi_in (y1 + (7 : Int32)) 144 = true ∧ (bi_in (y1 + (7 : Int32)) 144 = true ∧ (at_X12_deletes_66 X d K E (st_p s 90 ((y1 + (7 : Int32))).toNatClampNeg ((st_g s 90 ((y1 + (7 : Int32))).toNatClampNeg) - (1 : Int32))) (y1) ((0 : Int32))))) ∧ (¬ (((8 : Int32) + ((4 : Int32) * ((st_g s 90 ((y1 + (7 : Int32))).toNatClampNeg) - (1 : Int32)))) ≤ y3) → bi_in ((y1 + y3) + (4 : Int32)) 144 = true ∧ (bi_in (y1 + y3) 144 = true ∧ (at_X12_deletes_7 X d K E (st_p s 90 ((y1 + y3)).toNatClampNeg (st_g s 90 (((y1 + y3) + (4 : Int32))).toNatClampNeg)) (y1) ((y3 + (1 : Int32)))))))) : at_X12_deletes_7 X d K E s y1 y3 := by
  show bi_T _ _ _ _ _
  refine bi_Tr 8 (s' := (19, [(0, .ref 77), (1, .int y1), (3, .int y3)], [.int (y1 + (7 : Int32)), .ref 90, .int (4 : Int32), .int (8 : Int32), .int y3], st_mm s)) rfl ?_
  obtain ⟨hi, h⟩ := h
  refine bi_Tial rfl rfl rfl hi ?_
  refine bi_Tr 5 (s' := ((if ((8 : Int32) + ((4 : Int32) * ((st_g s 90 ((y1 + (7 : Int32))).toNatClampNeg) - (1 : Int32)))) ≤ y3 then 51 else 27), [(0, .ref 77), (1, .int y1), (3, .int y3)], [], st_mm s)) rfl (bi_Tif (fun hc => ?_) (fun hc => ?_))
  · have h := h.1 hc
    refine bi_Tr 6 (s' := (60, [(0, .ref 77), (1, .int y1), (3, .int y3)], [.int (y1 + (7 : Int32)), .ref 90, .int (y1 + (7 : Int32)), .ref 90], st_mm s)) rfl ?_
    obtain ⟨hi, h⟩ := h
    refine bi_Tial rfl rfl rfl hi ?_
    refine bi_Tr 2 (s' := (63, [(0, .ref 77), (1, .int y1), (3, .int y3)], [.int ((st_g s 90 ((y1 + (7 : Int32))).toNatClampNeg) - (1 : Int32)), .int (y1 + (7 : Int32)), .ref 90], st_mm s)) rfl ?_
    obtain ⟨hi, h⟩ := h
    refine bi_Tias rfl rfl hi ?_
    refine bi_Tr 2 (s' := (66, [(3, .int (0 : Int32)), (0, .ref 77), (1, .int y1)], [], st_mm (st_p s 90 ((y1 + (7 : Int32))).toNatClampNeg ((st_g s 90 ((y1 + (7 : Int32))).toNatClampNeg) - (1 : Int32))))) rfl ?_
    exact bi_Tww h rfl rfl ⟨rfl, rfl, rfl, trivial⟩
  · have h := h.2 hc
    refine bi_Tr 12 (s' := (43, [(0, .ref 77), (1, .int y1), (3, .int y3)], [.int ((y1 + y3) + (4 : Int32)), .ref 90, .int (y1 + y3), .ref 90], st_mm s)) rfl ?_
    obtain ⟨hi, h⟩ := h
    refine bi_Tial rfl rfl rfl hi ?_
    obtain ⟨hi, h⟩ := h
    refine bi_Tias rfl rfl hi ?_
    refine bi_Tr 2 (s' := (7, [(3, .int (y3 + (1 : Int32))), (0, .ref 77), (1, .int y1)], [], st_mm (st_p s 90 ((y1 + y3)).toNatClampNeg (st_g s 90 (((y1 + y3) + (4 : Int32))).toNatClampNeg)))) rfl ?_
    exact bi_Tww h rfl rfl ⟨rfl, rfl, rfl, trivial⟩
theorem go_X12_deletes_66 {X : bi_X} {d : Nat} {K : bi_St → Prop} {E : Nat → bi_St → Prop}  {s : bi_St} {y1 : Int32} {y3 : Int32}  (h : (((4 : Int32) ≤ y3) → K s) ∧ (¬ ((4 : Int32) ≤ y3) → bi_in (y1 + (7 : Int32)) 144 = true ∧ (bi_in (((y1 + (8 : Int32)) + ((4 : Int32) * (st_g s 90 ((y1 + (7 : Int32))).toNatClampNeg))) + y3) 144 = true ∧ (at_X12_deletes_66 X d K E (st_p s 90 ((((y1 + (8 : Int32)) + ((4 : Int32) * (st_g s 90 ((y1 + (7 : Int32))).toNatClampNeg))) + y3)).toNatClampNeg (0 : Int32)) (y1) ((y3 + (1 : Int32))))))) : at_X12_deletes_66 X d K E s y1 y3 := by
  show bi_T _ _ _ _ _
  refine bi_Tr 3 (s' := ((if (4 : Int32) ≤ y3 then 101 else 71), [(0, .ref 77), (1, .int y1), (3, .int y3)], [], st_mm s)) rfl (bi_Tif (fun hc => ?_) (fun hc => ?_))
  · have h := h.1 hc
    exact bi_Tv rfl rfl (Or.inl ⟨_, rfl, h⟩)
  · have h := h.2 hc
    refine bi_Tr 11 (s' := (88, [(0, .ref 77), (1, .int y1), (3, .int y3)], [.int (y1 + (7 : Int32)), .ref 90, .int (4 : Int32), .int (y1 + (8 : Int32)), .ref 90], st_mm s)) rfl ?_
    obtain ⟨hi, h⟩ := h
    refine bi_Tial rfl rfl rfl hi ?_
    refine bi_Tr 5 (s' := (94, [(0, .ref 77), (1, .int y1), (3, .int y3)], [.int (0 : Int32), .int (((y1 + (8 : Int32)) + ((4 : Int32) * (st_g s 90 ((y1 + (7 : Int32))).toNatClampNeg))) + y3), .ref 90], st_mm s)) rfl ?_
    obtain ⟨hi, h⟩ := h
    refine bi_Tias rfl rfl hi ?_
    refine bi_Tr 2 (s' := (66, [(3, .int (y3 + (1 : Int32))), (0, .ref 77), (1, .int y1)], [], st_mm (st_p s 90 ((((y1 + (8 : Int32)) + ((4 : Int32) * (st_g s 90 ((y1 + (7 : Int32))).toNatClampNeg))) + y3)).toNatClampNeg (0 : Int32)))) rfl ?_
    exact bi_Tww h rfl rfl ⟨rfl, rfl, rfl, trivial⟩
/-- PolicyRowsModel.deletes(II)V -/
theorem en_X12_deletes {X : bi_X} {d : Nat} {K : bi_St → Prop} {E : Nat → bi_St → Prop} {s : bi_St} {x0 : Int32} {x1 : Int32}  (h : at_X12_deletes_7 X d K E s (x0) (((8 : Int32) + ((4 : Int32) * x1)))) : cV X d 244 [.ref 77, .int x0, .int x1] s K E := by
  show bi_T _ _ _ _ _
  refine bi_Tr 6 (s' := (7, [(3, .int ((8 : Int32) + ((4 : Int32) * x1))), (0, .ref 77), (1, .int x0), (2, .int x1)], [], st_mm s)) rfl ?_
  exact bi_Tww h rfl rfl ⟨rfl, rfl, rfl, trivial⟩
def at_X12_insert_77 (X : bi_X) (d : Nat) (K : Int32 → bi_St → Prop) (E : Nat → bi_St → Prop) (s : bi_St) (y1 : Int32) (y2 : Int32) (y3 : Int32) (y4 : Int32) (y5 : Int32) : Prop := bi_T X d 245 (77, [(0, .ref 77), (1, .int y1), (2, .int y2), (3, .int y3), (4, .int y4), (5, .int y5)], [], st_mm s) (st_RI K E)
def at_X12_insert_39 (X : bi_X) (d : Nat) (K : Int32 → bi_St → Prop) (E : Nat → bi_St → Prop) (s : bi_St) (y1 : Int32) (y2 : Int32) (y3 : Int32) (y4 : Int32) (y5 : Int32) : Prop := bi_T X d 245 (39, [(0, .ref 77), (1, .int y1), (2, .int y2), (3, .int y3), (4, .int y4), (5, .int y5)], [], st_mm s) (st_RI K E)
def at_X12_insert_105 (X : bi_X) (d : Nat) (K : Int32 → bi_St → Prop) (E : Nat → bi_St → Prop) (s : bi_St)  : Prop := bi_T X d 245 (105, [(0, .ref 77)], [], st_mm s) (st_RI K E)
def at_X12_insert_118 (X : bi_X) (d : Nat) (K : Int32 → bi_St → Prop) (E : Nat → bi_St → Prop) (s : bi_St) (y7 : Int32) : Prop := bi_T X d 245 (118, [(0, .ref 77), (7, .int y7)], [], st_mm s) (st_RI K E)
def at_X12_insert_56 (X : bi_X) (d : Nat) (K : Int32 → bi_St → Prop) (E : Nat → bi_St → Prop) (s : bi_St) (y1 : Int32) (y2 : Int32) (y3 : Int32) (y4 : Int32) (y5 : Int32) : Prop := bi_T X d 245 (56, [(0, .ref 77), (1, .int y1), (2, .int y2), (3, .int y3), (4, .int y4), (5, .int y5)], [], st_mm s) (st_RI K E)
def at_X12_insert_73 (X : bi_X) (d : Nat) (K : Int32 → bi_St → Prop) (E : Nat → bi_St → Prop) (s : bi_St) (y1 : Int32) (y2 : Int32) (y3 : Int32) (y4 : Int32) (y5 : Int32) : Prop := bi_T X d 245 (73, [(0, .ref 77), (1, .int y1), (2, .int y2), (3, .int y3), (4, .int y4), (5, .int y5)], [], st_mm s) (st_RI K E)
theorem go_X12_insert_77 {X : bi_X} {d : Nat} {K : Int32 → bi_St → Prop} {E : Nat → bi_St → Prop}  {s : bi_St} {y1 : Int32} {y2 : Int32} {y3 : Int32} {y4 : Int32} {y5 : Int32}  (h : cV X d 207 [.ref 77] s (fun (s4 : bi_St) => (((0 : Int32) = 0) → at_X12_insert_105 X (d + 1) K E s4) ∧ (¬ ((0 : Int32) = 0) → cI X d 241 [.ref 77, .int (72 : Int32), .int y1, .int y2, .int y3, .int y4, .int y5] s4 (fun (r5 : Int32) (s5 : bi_St) => ((¬ r5 = 0) → cV X d 204 [.ref 77] s5 (fun (s6 : bi_St) => at_X12_insert_118 X (d + 1) K E s6 ((0 : Int32))) (fun _ _ => False)) ∧ (¬ (¬ r5 = 0) → at_X12_insert_105 X (d + 1) K E s5)) (fun _ _ => False))) (fun _ _ => False)) : at_X12_insert_77 X (d + 1) K E s y1 y2 y3 y4 y5 := by
  show bi_T _ _ _ _ _
  refine bi_Tr 3 (s' := (81, [(6, .int (0 : Int32)), (0, .ref 77), (1, .int y1), (2, .int y2), (3, .int y3), (4, .int y4), (5, .int y5)], [.ref 77], st_mm s)) rfl ?_
  refine bi_TcV (as := [.ref 77]) rfl rfl ?_
  refine cV.mono h (fun s4 h => ?_) (fun _ _ h => h.elim)
  refine bi_Tr 2 (s' := ((if (0 : Int32) = 0 then 105 else 89), [(6, .int (0 : Int32)), (0, .ref 77), (1, .int y1), (2, .int y2), (3, .int y3), (4, .int y4), (5, .int y5)], [], st_mm s4)) rfl (bi_Tif (fun hc => ?_) (fun hc => ?_))
  · have h := h.1 hc
    exact bi_Tww h rfl rfl ⟨rfl, trivial⟩
  · have h := h.2 hc
    refine bi_Tr 7 (s' := (99, [(6, .int (0 : Int32)), (0, .ref 77), (1, .int y1), (2, .int y2), (3, .int y3), (4, .int y4), (5, .int y5)], [.int y5, .int y4, .int y3, .int y2, .int y1, .int (72 : Int32), .ref 77], st_mm s4)) rfl ?_
    refine bi_TcI (as := [.ref 77, .int (72 : Int32), .int y1, .int y2, .int y3, .int y4, .int y5]) rfl rfl ?_
    refine cI.mono h (fun r5 s5 h => ?_) (fun _ _ h => h.elim)
    refine bi_Tr 1 (s' := ((if ¬ r5 = 0 then 111 else 105), [(6, .int (0 : Int32)), (0, .ref 77), (1, .int y1), (2, .int y2), (3, .int y3), (4, .int y4), (5, .int y5)], [], st_mm s5)) rfl (bi_Tif (fun hc => ?_) (fun hc => ?_))
    · have h := h.1 hc
      refine bi_Tr 1 (s' := (112, [(6, .int (0 : Int32)), (0, .ref 77), (1, .int y1), (2, .int y2), (3, .int y3), (4, .int y4), (5, .int y5)], [.ref 77], st_mm s5)) rfl ?_
      refine bi_TcV (as := [.ref 77]) rfl rfl ?_
      refine cV.mono h (fun s6 h => ?_) (fun _ _ h => h.elim)
      refine bi_Tr 2 (s' := (118, [(7, .int (0 : Int32)), (6, .int (0 : Int32)), (0, .ref 77), (1, .int y1), (2, .int y2), (3, .int y3), (4, .int y4), (5, .int y5)], [], st_mm s6)) rfl ?_
      exact bi_Tww h rfl rfl ⟨rfl, rfl, trivial⟩
    · have h := h.2 hc
      exact bi_Tww h rfl rfl ⟨rfl, trivial⟩
theorem go_X12_insert_39 {X : bi_X} {d : Nat} {K : Int32 → bi_St → Prop} {E : Nat → bi_St → Prop}  {s : bi_St} {y1 : Int32} {y2 : Int32} {y3 : Int32} {y4 : Int32} {y5 : Int32}  (h : (((st_g s 77 28) < (3 : Int32)) → at_X12_insert_56 X (d + 1) K E s (y1) (y2) (y3) (y4) (y5)) ∧ (¬ ((st_g s 77 28) < (3 : Int32)) → cI X d 240 [.ref 77, .int y4] s (fun (r7 : Int32) (s7 : bi_St) => ((r7 = 0) → at_X12_insert_77 X (d + 1) K E s7 (y1) (y2) (y3) (y4) (y5)) ∧ (¬ (r7 = 0) → at_X12_insert_56 X (d + 1) K E s7 (y1) (y2) (y3) (y4) (y5))) (fun _ _ => False))) : at_X12_insert_39 X (d + 1) K E s y1 y2 y3 y4 y5 := by
  show bi_T _ _ _ _ _
  refine bi_Tr 4 (s' := ((if (st_g s 77 28) < (3 : Int32) then 56 else 47), [(0, .ref 77), (1, .int y1), (2, .int y2), (3, .int y3), (4, .int y4), (5, .int y5)], [], st_mm s)) rfl (bi_Tif (fun hc => ?_) (fun hc => ?_))
  · have h := h.1 hc
    exact bi_Tww h rfl rfl ⟨rfl, rfl, rfl, rfl, rfl, rfl, trivial⟩
  · have h := h.2 hc
    refine bi_Tr 2 (s' := (50, [(0, .ref 77), (1, .int y1), (2, .int y2), (3, .int y3), (4, .int y4), (5, .int y5)], [.int y4, .ref 77], st_mm s)) rfl ?_
    refine bi_TcI (as := [.ref 77, .int y4]) rfl rfl ?_
    refine cI.mono h (fun r7 s7 h => ?_) (fun _ _ h => h.elim)
    refine bi_Tr 1 (s' := ((if r7 = 0 then 77 else 56), [(0, .ref 77), (1, .int y1), (2, .int y2), (3, .int y3), (4, .int y4), (5, .int y5)], [], st_mm s7)) rfl (bi_Tif (fun hc => ?_) (fun hc => ?_))
    · have h := h.1 hc
      exact bi_Tww h rfl rfl ⟨rfl, rfl, rfl, rfl, rfl, rfl, trivial⟩
    · have h := h.2 hc
      exact bi_Tww h rfl rfl ⟨rfl, rfl, rfl, rfl, rfl, rfl, trivial⟩
theorem go_X12_insert_105 {X : bi_X} {d : Nat} {K : Int32 → bi_St → Prop} {E : Nat → bi_St → Prop}  {s : bi_St}   (h : cI X d 205 [.ref 77, .int (1 : Int32)] s (fun (r8 : Int32) (s8 : bi_St) => K r8 s8) (fun _ _ => False)) : at_X12_insert_105 X (d + 1) K E s  := by
  show bi_T _ _ _ _ _
  refine bi_Tr 2 (s' := (107, [(0, .ref 77)], [.int (1 : Int32), .ref 77], st_mm s)) rfl ?_
  refine bi_TcI (as := [.ref 77, .int (1 : Int32)]) rfl rfl ?_
  refine cI.mono h (fun r8 s8 h => ?_) (fun _ _ h => h.elim)
  exact bi_Tv rfl rfl (Or.inl ⟨_, _, rfl, h⟩)
theorem go_X12_insert_118 {X : bi_X} {d : Nat} {K : Int32 → bi_St → Prop} {E : Nat → bi_St → Prop}  {s : bi_St} {y7 : Int32}  (h : (((72 : Int32) ≤ y7) → bi_in (7 : Int32) 144 = true ∧ (K (st_g s 90 ((7 : Int32)).toNatClampNeg) s)) ∧ (¬ ((72 : Int32) ≤ y7) → bi_in ((72 : Int32) + y7) 144 = true ∧ (bi_in y7 144 = true ∧ (at_X12_insert_118 X (d + 1) K E (st_p s 90 (y7).toNatClampNeg (st_g s 90 (((72 : Int32) + y7)).toNatClampNeg)) ((y7 + (1 : Int32))))))) : at_X12_insert_118 X (d + 1) K E s y7 := by
  show bi_T _ _ _ _ _
  refine bi_Tr 3 (s' := ((if (72 : Int32) ≤ y7 then 148 else 125), [(0, .ref 77), (7, .int y7)], [], st_mm s)) rfl (bi_Tif (fun hc => ?_) (fun hc => ?_))
  · have h := h.1 hc
    refine bi_Tr 3 (s' := (154, [(0, .ref 77), (7, .int y7)], [.int (7 : Int32), .ref 90], st_mm s)) rfl ?_
    obtain ⟨hi, h⟩ := h
    refine bi_Tial rfl rfl rfl hi ?_
    exact bi_Tv rfl rfl (Or.inl ⟨_, _, rfl, h⟩)
  · have h := h.2 hc
    refine bi_Tr 8 (s' := (140, [(0, .ref 77), (7, .int y7)], [.int ((72 : Int32) + y7), .ref 90, .int y7, .ref 90], st_mm s)) rfl ?_
    obtain ⟨hi, h⟩ := h
    refine bi_Tial rfl rfl rfl hi ?_
    obtain ⟨hi, h⟩ := h
    refine bi_Tias rfl rfl hi ?_
    refine bi_Tr 2 (s' := (118, [(7, .int (y7 + (1 : Int32))), (0, .ref 77)], [], st_mm (st_p s 90 (y7).toNatClampNeg (st_g s 90 (((72 : Int32) + y7)).toNatClampNeg)))) rfl ?_
    exact bi_Tww h rfl rfl ⟨rfl, rfl, trivial⟩
theorem go_X12_insert_56 {X : bi_X} {d : Nat} {K : Int32 → bi_St → Prop} {E : Nat → bi_St → Prop}  {s : bi_St} {y1 : Int32} {y2 : Int32} {y3 : Int32} {y4 : Int32} {y5 : Int32}  (h : (((st_g s 77 28) < (4 : Int32)) → at_X12_insert_73 X (d + 1) K E s (y1) (y2) (y3) (y4) (y5)) ∧ (¬ ((st_g s 77 28) < (4 : Int32)) → cI X d 240 [.ref 77, .int y5] s (fun (r9 : Int32) (s9 : bi_St) => ((r9 = 0) → at_X12_insert_77 X (d + 1) K E s9 (y1) (y2) (y3) (y4) (y5)) ∧ (¬ (r9 = 0) → at_X12_insert_73 X (d + 1) K E s9 (y1) (y2) (y3) (y4) (y5))) (fun _ _ => False))) : at_X12_insert_56 X (d + 1) K E s y1 y2 y3 y4 y5 := by
  show bi_T _ _ _ _ _
  refine bi_Tr 4 (s' := ((if (st_g s 77 28) < (4 : Int32) then 73 else 64), [(0, .ref 77), (1, .int y1), (2, .int y2), (3, .int y3), (4, .int y4), (5, .int y5)], [], st_mm s)) rfl (bi_Tif (fun hc => ?_) (fun hc => ?_))
  · have h := h.1 hc
    exact bi_Tww h rfl rfl ⟨rfl, rfl, rfl, rfl, rfl, rfl, trivial⟩
  · have h := h.2 hc
    refine bi_Tr 2 (s' := (67, [(0, .ref 77), (1, .int y1), (2, .int y2), (3, .int y3), (4, .int y4), (5, .int y5)], [.int y5, .ref 77], st_mm s)) rfl ?_
    refine bi_TcI (as := [.ref 77, .int y5]) rfl rfl ?_
    refine cI.mono h (fun r9 s9 h => ?_) (fun _ _ h => h.elim)
    refine bi_Tr 1 (s' := ((if r9 = 0 then 77 else 73), [(0, .ref 77), (1, .int y1), (2, .int y2), (3, .int y3), (4, .int y4), (5, .int y5)], [], st_mm s9)) rfl (bi_Tif (fun hc => ?_) (fun hc => ?_))
    · have h := h.1 hc
      exact bi_Tww h rfl rfl ⟨rfl, rfl, rfl, rfl, rfl, rfl, trivial⟩
    · have h := h.2 hc
      exact bi_Tww h rfl rfl ⟨rfl, rfl, rfl, rfl, rfl, rfl, trivial⟩
theorem go_X12_insert_73 {X : bi_X} {d : Nat} {K : Int32 → bi_St → Prop} {E : Nat → bi_St → Prop}  {s : bi_St} {y1 : Int32} {y2 : Int32} {y3 : Int32} {y4 : Int32} {y5 : Int32}  (h : cV X d 207 [.ref 77] s (fun (s10 : bi_St) => (((1 : Int32) = 0) → at_X12_insert_105 X (d + 1) K E s10) ∧ (¬ ((1 : Int32) = 0) → cI X d 241 [.ref 77, .int (72 : Int32), .int y1, .int y2, .int y3, .int y4, .int y5] s10 (fun (r11 : Int32) (s11 : bi_St) => ((¬ r11 = 0) → cV X d 204 [.ref 77] s11 (fun (s12 : bi_St) => at_X12_insert_118 X (d + 1) K E s12 ((0 : Int32))) (fun _ _ => False)) ∧ (¬ (¬ r11 = 0) → at_X12_insert_105 X (d + 1) K E s11)) (fun _ _ => False))) (fun _ _ => False)) : at_X12_insert_73 X (d + 1) K E s y1 y2 y3 y4 y5 := by
  show bi_T _ _ _ _ _
  refine bi_Tr 4 (s' := (81, [(6, .int (1 : Int32)), (0, .ref 77), (1, .int y1), (2, .int y2), (3, .int y3), (4, .int y4), (5, .int y5)], [.ref 77], st_mm s)) rfl ?_
  refine bi_TcV (as := [.ref 77]) rfl rfl ?_
  refine cV.mono h (fun s10 h => ?_) (fun _ _ h => h.elim)
  refine bi_Tr 2 (s' := ((if (1 : Int32) = 0 then 105 else 89), [(6, .int (1 : Int32)), (0, .ref 77), (1, .int y1), (2, .int y2), (3, .int y3), (4, .int y4), (5, .int y5)], [], st_mm s10)) rfl (bi_Tif (fun hc => ?_) (fun hc => ?_))
  · have h := h.1 hc
    exact bi_Tww h rfl rfl ⟨rfl, trivial⟩
  · have h := h.2 hc
    refine bi_Tr 7 (s' := (99, [(6, .int (1 : Int32)), (0, .ref 77), (1, .int y1), (2, .int y2), (3, .int y3), (4, .int y4), (5, .int y5)], [.int y5, .int y4, .int y3, .int y2, .int y1, .int (72 : Int32), .ref 77], st_mm s10)) rfl ?_
    refine bi_TcI (as := [.ref 77, .int (72 : Int32), .int y1, .int y2, .int y3, .int y4, .int y5]) rfl rfl ?_
    refine cI.mono h (fun r11 s11 h => ?_) (fun _ _ h => h.elim)
    refine bi_Tr 1 (s' := ((if ¬ r11 = 0 then 111 else 105), [(6, .int (1 : Int32)), (0, .ref 77), (1, .int y1), (2, .int y2), (3, .int y3), (4, .int y4), (5, .int y5)], [], st_mm s11)) rfl (bi_Tif (fun hc => ?_) (fun hc => ?_))
    · have h := h.1 hc
      refine bi_Tr 1 (s' := (112, [(6, .int (1 : Int32)), (0, .ref 77), (1, .int y1), (2, .int y2), (3, .int y3), (4, .int y4), (5, .int y5)], [.ref 77], st_mm s11)) rfl ?_
      refine bi_TcV (as := [.ref 77]) rfl rfl ?_
      refine cV.mono h (fun s12 h => ?_) (fun _ _ h => h.elim)
      refine bi_Tr 2 (s' := (118, [(7, .int (0 : Int32)), (6, .int (1 : Int32)), (0, .ref 77), (1, .int y1), (2, .int y2), (3, .int y3), (4, .int y4), (5, .int y5)], [], st_mm s12)) rfl ?_
      exact bi_Tww h rfl rfl ⟨rfl, rfl, trivial⟩
    · have h := h.2 hc
      exact bi_Tww h rfl rfl ⟨rfl, trivial⟩
/-- PolicyRowsModel.insert(IIIII)I -/
theorem en_X12_insert {X : bi_X} {d : Nat} {K : Int32 → bi_St → Prop} {E : Nat → bi_St → Prop} {s : bi_St} {x0 : Int32} {x1 : Int32} {x2 : Int32} {x3 : Int32} {x4 : Int32}  (h : cI X d 222 [.ref 77, .int x0] (st_p s 77 0 (0 : Int32)) (fun (r1 : Int32) (s1 : bi_St) => ((¬ r1 = 0) → cI X d 240 [.ref 77, .int x1] s1 (fun (r2 : Int32) (s2 : bi_St) => ((r2 = 0) → at_X12_insert_77 X (d + 1) K E s2 (x0) (x1) (x2) (x3) (x4)) ∧ (¬ (r2 = 0) → (((st_g s2 77 28) < (2 : Int32)) → at_X12_insert_39 X (d + 1) K E s2 (x0) (x1) (x2) (x3) (x4)) ∧ (¬ ((st_g s2 77 28) < (2 : Int32)) → cI X d 240 [.ref 77, .int x2] s2 (fun (r3 : Int32) (s3 : bi_St) => ((r3 = 0) → at_X12_insert_77 X (d + 1) K E s3 (x0) (x1) (x2) (x3) (x4)) ∧ (¬ (r3 = 0) → at_X12_insert_39 X (d + 1) K E s3 (x0) (x1) (x2) (x3) (x4))) (fun _ _ => False)))) (fun _ _ => False)) ∧ (¬ (¬ r1 = 0) → K (0 : Int32) s1)) (fun _ _ => False)) : cI X (d + 1) 245 [.ref 77, .int x0, .int x1, .int x2, .int x3, .int x4] s K E := by
  show bi_T _ _ _ _ _
  refine bi_Tr 5 (s' := (7, [(0, .ref 77), (1, .int x0), (2, .int x1), (3, .int x2), (4, .int x3), (5, .int x4)], [.int x0, .ref 77], st_mm (st_p s 77 0 (0 : Int32)))) rfl ?_
  refine bi_TcI (as := [.ref 77, .int x0]) rfl rfl ?_
  refine cI.mono h (fun r1 s1 h => ?_) (fun _ _ h => h.elim)
  refine bi_Tr 1 (s' := ((if ¬ r1 = 0 then 15 else 13), [(0, .ref 77), (1, .int x0), (2, .int x1), (3, .int x2), (4, .int x3), (5, .int x4)], [], st_mm s1)) rfl (bi_Tif (fun hc => ?_) (fun hc => ?_))
  · have h := h.1 hc
    refine bi_Tr 2 (s' := (17, [(0, .ref 77), (1, .int x0), (2, .int x1), (3, .int x2), (4, .int x3), (5, .int x4)], [.int x1, .ref 77], st_mm s1)) rfl ?_
    refine bi_TcI (as := [.ref 77, .int x1]) rfl rfl ?_
    refine cI.mono h (fun r2 s2 h => ?_) (fun _ _ h => h.elim)
    refine bi_Tr 1 (s' := ((if r2 = 0 then 77 else 23), [(0, .ref 77), (1, .int x0), (2, .int x1), (3, .int x2), (4, .int x3), (5, .int x4)], [], st_mm s2)) rfl (bi_Tif (fun hc => ?_) (fun hc => ?_))
    · have h := h.1 hc
      exact bi_Tww h rfl rfl ⟨rfl, rfl, rfl, rfl, rfl, rfl, trivial⟩
    · have h := h.2 hc
      refine bi_Tr 4 (s' := ((if (st_g s2 77 28) < (2 : Int32) then 39 else 31), [(0, .ref 77), (1, .int x0), (2, .int x1), (3, .int x2), (4, .int x3), (5, .int x4)], [], st_mm s2)) rfl (bi_Tif (fun hc => ?_) (fun hc => ?_))
      · have h := h.1 hc
        exact bi_Tww h rfl rfl ⟨rfl, rfl, rfl, rfl, rfl, rfl, trivial⟩
      · have h := h.2 hc
        refine bi_Tr 2 (s' := (33, [(0, .ref 77), (1, .int x0), (2, .int x1), (3, .int x2), (4, .int x3), (5, .int x4)], [.int x2, .ref 77], st_mm s2)) rfl ?_
        refine bi_TcI (as := [.ref 77, .int x2]) rfl rfl ?_
        refine cI.mono h (fun r3 s3 h => ?_) (fun _ _ h => h.elim)
        refine bi_Tr 1 (s' := ((if r3 = 0 then 77 else 39), [(0, .ref 77), (1, .int x0), (2, .int x1), (3, .int x2), (4, .int x3), (5, .int x4)], [], st_mm s3)) rfl (bi_Tif (fun hc => ?_) (fun hc => ?_))
        · have h := h.1 hc
          exact bi_Tww h rfl rfl ⟨rfl, rfl, rfl, rfl, rfl, rfl, trivial⟩
        · have h := h.2 hc
          exact bi_Tww h rfl rfl ⟨rfl, rfl, rfl, rfl, rfl, rfl, trivial⟩
  · have h := h.2 hc
    refine bi_Tr 1 (s' := (14, [(0, .ref 77), (1, .int x0), (2, .int x1), (3, .int x2), (4, .int x3), (5, .int x4)], [.int (0 : Int32)], st_mm s1)) rfl ?_
    exact bi_Tv rfl rfl (Or.inl ⟨_, _, rfl, h⟩)
/-- PolicyRowsModel.update(IIII)I -/
theorem en_X12_update {X : bi_X} {d : Nat} {K : Int32 → bi_St → Prop} {E : Nat → bi_St → Prop} {s : bi_St} {x0 : Int32} {x1 : Int32} {x2 : Int32} {x3 : Int32}  (h : cI X d 222 [.ref 77, .int x0] (st_p s 77 0 (0 : Int32)) (fun (r1 : Int32) (s1 : bi_St) => ((r1 = 0) → K (0 : Int32) s1) ∧ (¬ (r1 = 0) → cI X d 164 [.int x2, .int (0 : Int32), .int ((st_g s1 77 28) - (1 : Int32))] s1 (fun (r2 : Int32) (s2 : bi_St) => cI X d 163 [.ref 77, .int r2, .int (1 : Int32)] s2 (fun (r3 : Int32) (s3 : bi_St) => ((¬ r3 = 0) → cI X d 240 [.ref 77, .int x3] s3 (fun (r4 : Int32) (s4 : bi_St) => ((¬ r4 = 0) → cI X d 242 [.ref 77, .int (0 : Int32), .int x0, .int x1, .int (2 : Int32)] s4 (fun (r5 : Int32) (s5 : bi_St) => ((¬ r5 = 0) → cI X d 243 [.ref 77, .int (0 : Int32), .int x0, .int x1, .int x2, .int x3] s5 (fun (r6 : Int32) (s6 : bi_St) => ((¬ r6 = 0) → cV X d 204 [.ref 77] s6 (fun (s7 : bi_St) => bi_in (((8 : Int32) + ((4 : Int32) * x1)) + x2) 144 = true ∧ (K (1 : Int32) (st_p s7 90 ((((8 : Int32) + ((4 : Int32) * x1)) + x2)).toNatClampNeg x3))) (fun _ _ => False)) ∧ (¬ (¬ r6 = 0) → cI X d 205 [.ref 77, .int (1 : Int32)] s6 (fun (r8 : Int32) (s8 : bi_St) => K r8 s8) (fun _ _ => False))) (fun _ _ => False)) ∧ (¬ (¬ r5 = 0) → K (0 : Int32) s5)) (fun _ _ => False)) ∧ (¬ (¬ r4 = 0) → cI X d 205 [.ref 77, .int (1 : Int32)] s4 (fun (r9 : Int32) (s9 : bi_St) => K r9 s9) (fun _ _ => False))) (fun _ _ => False)) ∧ (¬ (¬ r3 = 0) → K (0 : Int32) s3)) (fun _ _ => False)) (fun _ _ => False))) (fun _ _ => False)) : cI X (d + 1) 246 [.ref 77, .int x0, .int x1, .int x2, .int x3] s K E := by
  show bi_T _ _ _ _ _
  refine bi_Tr 5 (s' := (7, [(0, .ref 77), (1, .int x0), (2, .int x1), (3, .int x2), (4, .int x3)], [.int x0, .ref 77], st_mm (st_p s 77 0 (0 : Int32)))) rfl ?_
  refine bi_TcI (as := [.ref 77, .int x0]) rfl rfl ?_
  refine cI.mono h (fun r1 s1 h => ?_) (fun _ _ h => h.elim)
  refine bi_Tr 1 (s' := ((if r1 = 0 then 32 else 13), [(0, .ref 77), (1, .int x0), (2, .int x1), (3, .int x2), (4, .int x3)], [], st_mm s1)) rfl (bi_Tif (fun hc => ?_) (fun hc => ?_))
  · have h := h.1 hc
    refine bi_Tr 1 (s' := (33, [(0, .ref 77), (1, .int x0), (2, .int x1), (3, .int x2), (4, .int x3)], [.int (0 : Int32)], st_mm s1)) rfl ?_
    exact bi_Tv rfl rfl (Or.inl ⟨_, _, rfl, h⟩)
  · have h := h.2 hc
    refine bi_Tr 7 (s' := (22, [(0, .ref 77), (1, .int x0), (2, .int x1), (3, .int x2), (4, .int x3)], [.int ((st_g s1 77 28) - (1 : Int32)), .int (0 : Int32), .int x2, .ref 77], st_mm s1)) rfl ?_
    refine bi_TcI (as := [.int x2, .int (0 : Int32), .int ((st_g s1 77 28) - (1 : Int32))]) rfl rfl ?_
    refine cI.mono h (fun r2 s2 h => ?_) (fun _ _ h => h.elim)
    refine bi_Tr 1 (s' := (26, [(0, .ref 77), (1, .int x0), (2, .int x1), (3, .int x2), (4, .int x3)], [.int (1 : Int32), .int r2, .ref 77], st_mm s2)) rfl ?_
    refine bi_TcI (as := [.ref 77, .int r2, .int (1 : Int32)]) rfl rfl ?_
    refine cI.mono h (fun r3 s3 h => ?_) (fun _ _ h => h.elim)
    refine bi_Tr 1 (s' := ((if ¬ r3 = 0 then 34 else 32), [(0, .ref 77), (1, .int x0), (2, .int x1), (3, .int x2), (4, .int x3)], [], st_mm s3)) rfl (bi_Tif (fun hc => ?_) (fun hc => ?_))
    · have h := h.1 hc
      refine bi_Tr 2 (s' := (37, [(0, .ref 77), (1, .int x0), (2, .int x1), (3, .int x2), (4, .int x3)], [.int x3, .ref 77], st_mm s3)) rfl ?_
      refine bi_TcI (as := [.ref 77, .int x3]) rfl rfl ?_
      refine cI.mono h (fun r4 s4 h => ?_) (fun _ _ h => h.elim)
      refine bi_Tr 1 (s' := ((if ¬ r4 = 0 then 49 else 43), [(0, .ref 77), (1, .int x0), (2, .int x1), (3, .int x2), (4, .int x3)], [], st_mm s4)) rfl (bi_Tif (fun hc => ?_) (fun hc => ?_))
      · have h := h.1 hc
        refine bi_Tr 5 (s' := (54, [(0, .ref 77), (1, .int x0), (2, .int x1), (3, .int x2), (4, .int x3)], [.int (2 : Int32), .int x1, .int x0, .int (0 : Int32), .ref 77], st_mm s4)) rfl ?_
        refine bi_TcI (as := [.ref 77, .int (0 : Int32), .int x0, .int x1, .int (2 : Int32)]) rfl rfl ?_
        refine cI.mono h (fun r5 s5 h => ?_) (fun _ _ h => h.elim)
        refine bi_Tr 1 (s' := ((if ¬ r5 = 0 then 62 else 60), [(0, .ref 77), (1, .int x0), (2, .int x1), (3, .int x2), (4, .int x3)], [], st_mm s5)) rfl (bi_Tif (fun hc => ?_) (fun hc => ?_))
        · have h := h.1 hc
          refine bi_Tr 6 (s' := (69, [(0, .ref 77), (1, .int x0), (2, .int x1), (3, .int x2), (4, .int x3)], [.int x3, .int x2, .int x1, .int x0, .int (0 : Int32), .ref 77], st_mm s5)) rfl ?_
          refine bi_TcI (as := [.ref 77, .int (0 : Int32), .int x0, .int x1, .int x2, .int x3]) rfl rfl ?_
          refine cI.mono h (fun r6 s6 h => ?_) (fun _ _ h => h.elim)
          refine bi_Tr 1 (s' := ((if ¬ r6 = 0 then 81 else 75), [(0, .ref 77), (1, .int x0), (2, .int x1), (3, .int x2), (4, .int x3)], [], st_mm s6)) rfl (bi_Tif (fun hc => ?_) (fun hc => ?_))
          · have h := h.1 hc
            refine bi_Tr 1 (s' := (82, [(0, .ref 77), (1, .int x0), (2, .int x1), (3, .int x2), (4, .int x3)], [.ref 77], st_mm s6)) rfl ?_
            refine bi_TcV (as := [.ref 77]) rfl rfl ?_
            refine cV.mono h (fun s7 h => ?_) (fun _ _ h => h.elim)
            refine bi_Tr 10 (s' := (99, [(0, .ref 77), (1, .int x0), (2, .int x1), (3, .int x2), (4, .int x3)], [.int x3, .int (((8 : Int32) + ((4 : Int32) * x1)) + x2), .ref 90], st_mm s7)) rfl ?_
            obtain ⟨hi, h⟩ := h
            refine bi_Tias rfl rfl hi ?_
            refine bi_Tr 1 (s' := (101, [(0, .ref 77), (1, .int x0), (2, .int x1), (3, .int x2), (4, .int x3)], [.int (1 : Int32)], st_mm (st_p s7 90 ((((8 : Int32) + ((4 : Int32) * x1)) + x2)).toNatClampNeg x3))) rfl ?_
            exact bi_Tv rfl rfl (Or.inl ⟨_, _, rfl, h⟩)
          · have h := h.2 hc
            refine bi_Tr 2 (s' := (77, [(0, .ref 77), (1, .int x0), (2, .int x1), (3, .int x2), (4, .int x3)], [.int (1 : Int32), .ref 77], st_mm s6)) rfl ?_
            refine bi_TcI (as := [.ref 77, .int (1 : Int32)]) rfl rfl ?_
            refine cI.mono h (fun r8 s8 h => ?_) (fun _ _ h => h.elim)
            exact bi_Tv rfl rfl (Or.inl ⟨_, _, rfl, h⟩)
        · have h := h.2 hc
          refine bi_Tr 1 (s' := (61, [(0, .ref 77), (1, .int x0), (2, .int x1), (3, .int x2), (4, .int x3)], [.int (0 : Int32)], st_mm s5)) rfl ?_
          exact bi_Tv rfl rfl (Or.inl ⟨_, _, rfl, h⟩)
      · have h := h.2 hc
        refine bi_Tr 2 (s' := (45, [(0, .ref 77), (1, .int x0), (2, .int x1), (3, .int x2), (4, .int x3)], [.int (1 : Int32), .ref 77], st_mm s4)) rfl ?_
        refine bi_TcI (as := [.ref 77, .int (1 : Int32)]) rfl rfl ?_
        refine cI.mono h (fun r9 s9 h => ?_) (fun _ _ h => h.elim)
        exact bi_Tv rfl rfl (Or.inl ⟨_, _, rfl, h⟩)
    · have h := h.2 hc
      refine bi_Tr 1 (s' := (33, [(0, .ref 77), (1, .int x0), (2, .int x1), (3, .int x2), (4, .int x3)], [.int (0 : Int32)], st_mm s3)) rfl ?_
      exact bi_Tv rfl rfl (Or.inl ⟨_, _, rfl, h⟩)
/-- PolicyRowsModel.delete(II)I -/
theorem en_X12_delete {X : bi_X} {d : Nat} {K : Int32 → bi_St → Prop} {E : Nat → bi_St → Prop} {s : bi_St} {x0 : Int32} {x1 : Int32}  (h : cI X d 222 [.ref 77, .int x0] (st_p s 77 0 (0 : Int32)) (fun (r1 : Int32) (s1 : bi_St) => ((r1 = 0) → K (0 : Int32) s1) ∧ (¬ (r1 = 0) → cI X d 242 [.ref 77, .int (0 : Int32), .int x0, .int x1, .int (3 : Int32)] s1 (fun (r2 : Int32) (s2 : bi_St) => ((¬ r2 = 0) → cV X d 204 [.ref 77] s2 (fun (s3 : bi_St) => cV X d 244 [.ref 77, .int (0 : Int32), .int x1] s3 (fun (s4 : bi_St) => K (1 : Int32) s4) (fun _ _ => False)) (fun _ _ => False)) ∧ (¬ (¬ r2 = 0) → K (0 : Int32) s2)) (fun _ _ => False))) (fun _ _ => False)) : cI X (d + 1) 247 [.ref 77, .int x0, .int x1] s K E := by
  show bi_T _ _ _ _ _
  refine bi_Tr 5 (s' := (7, [(0, .ref 77), (1, .int x0), (2, .int x1)], [.int x0, .ref 77], st_mm (st_p s 77 0 (0 : Int32)))) rfl ?_
  refine bi_TcI (as := [.ref 77, .int x0]) rfl rfl ?_
  refine cI.mono h (fun r1 s1 h => ?_) (fun _ _ h => h.elim)
  refine bi_Tr 1 (s' := ((if r1 = 0 then 24 else 13), [(0, .ref 77), (1, .int x0), (2, .int x1)], [], st_mm s1)) rfl (bi_Tif (fun hc => ?_) (fun hc => ?_))
  · have h := h.1 hc
    refine bi_Tr 1 (s' := (25, [(0, .ref 77), (1, .int x0), (2, .int x1)], [.int (0 : Int32)], st_mm s1)) rfl ?_
    exact bi_Tv rfl rfl (Or.inl ⟨_, _, rfl, h⟩)
  · have h := h.2 hc
    refine bi_Tr 5 (s' := (18, [(0, .ref 77), (1, .int x0), (2, .int x1)], [.int (3 : Int32), .int x1, .int x0, .int (0 : Int32), .ref 77], st_mm s1)) rfl ?_
    refine bi_TcI (as := [.ref 77, .int (0 : Int32), .int x0, .int x1, .int (3 : Int32)]) rfl rfl ?_
    refine cI.mono h (fun r2 s2 h => ?_) (fun _ _ h => h.elim)
    refine bi_Tr 1 (s' := ((if ¬ r2 = 0 then 26 else 24), [(0, .ref 77), (1, .int x0), (2, .int x1)], [], st_mm s2)) rfl (bi_Tif (fun hc => ?_) (fun hc => ?_))
    · have h := h.1 hc
      refine bi_Tr 1 (s' := (27, [(0, .ref 77), (1, .int x0), (2, .int x1)], [.ref 77], st_mm s2)) rfl ?_
      refine bi_TcV (as := [.ref 77]) rfl rfl ?_
      refine cV.mono h (fun s3 h => ?_) (fun _ _ h => h.elim)
      refine bi_Tr 3 (s' := (33, [(0, .ref 77), (1, .int x0), (2, .int x1)], [.int x1, .int (0 : Int32), .ref 77], st_mm s3)) rfl ?_
      refine bi_TcV (as := [.ref 77, .int (0 : Int32), .int x1]) rfl rfl ?_
      refine cV.mono h (fun s4 h => ?_) (fun _ _ h => h.elim)
      refine bi_Tr 1 (s' := (37, [(0, .ref 77), (1, .int x0), (2, .int x1)], [.int (1 : Int32)], st_mm s4)) rfl ?_
      exact bi_Tv rfl rfl (Or.inl ⟨_, _, rfl, h⟩)
    · have h := h.2 hc
      refine bi_Tr 1 (s' := (25, [(0, .ref 77), (1, .int x0), (2, .int x1)], [.int (0 : Int32)], st_mm s2)) rfl ?_
      exact bi_Tv rfl rfl (Or.inl ⟨_, _, rfl, h⟩)
def at_X12_grant_21 (X : bi_X) (d : Nat) (K : Int32 → bi_St → Prop) (E : Nat → bi_St → Prop) (s : bi_St)  : Prop := bi_T X d 248 (21, [], [], st_mm s) (st_RI K E)
def at_X12_grant_73 (X : bi_X) (d : Nat) (K : Int32 → bi_St → Prop) (E : Nat → bi_St → Prop) (s : bi_St)  : Prop := bi_T X d 248 (73, [(0, .ref 77)], [], st_mm s) (st_RI K E)
def at_X12_grant_87 (X : bi_X) (d : Nat) (K : Int32 → bi_St → Prop) (E : Nat → bi_St → Prop) (s : bi_St) (y1 : Int32) (y2 : Int32) (y3 : Int32) : Prop := bi_T X d 248 (87, [(0, .ref 77), (1, .int y1), (2, .int y2), (3, .int y3)], [], st_mm s) (st_RI K E)
theorem go_X12_grant_21 {X : bi_X} {d : Nat} {K : Int32 → bi_St → Prop} {E : Nat → bi_St → Prop}  {s : bi_St}   (h : K (0 : Int32) s) : at_X12_grant_21 X (d + 1) K E s  := by
  show bi_T _ _ _ _ _
  refine bi_Tr 1 (s' := (22, [], [.int (0 : Int32)], st_mm s)) rfl ?_
  exact bi_Tv rfl rfl (Or.inl ⟨_, _, rfl, h⟩)
theorem go_X12_grant_73 {X : bi_X} {d : Nat} {K : Int32 → bi_St → Prop} {E : Nat → bi_St → Prop}  {s : bi_St}   (h : cI X d 205 [.ref 77, .int (1 : Int32)] s (fun (r5 : Int32) (s5 : bi_St) => ((r5 ≤ 0) → K (0 : Int32) s5) ∧ (¬ (r5 ≤ 0) → K (1 : Int32) s5)) (fun _ _ => False)) : at_X12_grant_73 X (d + 1) K E s  := by
  show bi_T _ _ _ _ _
  refine bi_Tr 2 (s' := (75, [(0, .ref 77)], [.int (1 : Int32), .ref 77], st_mm s)) rfl ?_
  refine bi_TcI (as := [.ref 77, .int (1 : Int32)]) rfl rfl ?_
  refine cI.mono h (fun r5 s5 h => ?_) (fun _ _ h => h.elim)
  refine bi_Tr 1 (s' := ((if r5 ≤ 0 then 85 else 81), [(0, .ref 77)], [], st_mm s5)) rfl (bi_Tif (fun hc => ?_) (fun hc => ?_))
  · have h := h.1 hc
    refine bi_Tr 1 (s' := (86, [(0, .ref 77)], [.int (0 : Int32)], st_mm s5)) rfl ?_
    exact bi_Tv rfl rfl (Or.inl ⟨_, _, rfl, h⟩)
  · have h := h.2 hc
    refine bi_Tr 2 (s' := (86, [(0, .ref 77)], [.int (1 : Int32)], st_mm s5)) rfl ?_
    exact bi_Tv rfl rfl (Or.inl ⟨_, _, rfl, h⟩)
theorem go_X12_grant_87 {X : bi_X} {d : Nat} {K : Int32 → bi_St → Prop} {E : Nat → bi_St → Prop}  {s : bi_St} {y1 : Int32} {y2 : Int32} {y3 : Int32}  (h : cV X d 204 [.ref 77] s (fun (s6 : bi_St) => bi_in y1 144 = true ∧ (((y3 = 0) → bi_in y1 144 = true ∧ (K (1 : Int32) (st_p s6 90 (y1).toNatClampNeg ((st_g s6 90 (y1).toNatClampNeg) + ((0 : Int32) - ((1 : Int32) <<< (y2 &&& 31))))))) ∧ (¬ (y3 = 0) → bi_in y1 144 = true ∧ (K (1 : Int32) (st_p s6 90 (y1).toNatClampNeg ((st_g s6 90 (y1).toNatClampNeg) + ((1 : Int32) <<< (y2 &&& 31)))))))) (fun _ _ => False)) : at_X12_grant_87 X (d + 1) K E s y1 y2 y3 := by
  show bi_T _ _ _ _ _
  refine bi_Tr 1 (s' := (88, [(0, .ref 77), (1, .int y1), (2, .int y2), (3, .int y3)], [.ref 77], st_mm s)) rfl ?_
  refine bi_TcV (as := [.ref 77]) rfl rfl ?_
  refine cV.mono h (fun s6 h => ?_) (fun _ _ h => h.elim)
  refine bi_Tr 4 (s' := (97, [(0, .ref 77), (1, .int y1), (2, .int y2), (3, .int y3)], [.int y1, .ref 90, .int y1, .ref 90], st_mm s6)) rfl ?_
  obtain ⟨hi, h⟩ := h
  refine bi_Tial rfl rfl rfl hi ?_
  refine bi_Tr 2 (s' := ((if y3 = 0 then 108 else 102), [(0, .ref 77), (1, .int y1), (2, .int y2), (3, .int y3)], [.int (st_g s6 90 (y1).toNatClampNeg), .int y1, .ref 90], st_mm s6)) rfl (bi_Tif (fun hc => ?_) (fun hc => ?_))
  · have h := h.1 hc
    refine bi_Tr 6 (s' := (114, [(0, .ref 77), (1, .int y1), (2, .int y2), (3, .int y3)], [.int ((st_g s6 90 (y1).toNatClampNeg) + ((0 : Int32) - ((1 : Int32) <<< (y2 &&& 31)))), .int y1, .ref 90], st_mm s6)) rfl ?_
    obtain ⟨hi, h⟩ := h
    refine bi_Tias rfl rfl hi ?_
    refine bi_Tr 1 (s' := (116, [(0, .ref 77), (1, .int y1), (2, .int y2), (3, .int y3)], [.int (1 : Int32)], st_mm (st_p s6 90 (y1).toNatClampNeg ((st_g s6 90 (y1).toNatClampNeg) + ((0 : Int32) - ((1 : Int32) <<< (y2 &&& 31))))))) rfl ?_
    exact bi_Tv rfl rfl (Or.inl ⟨_, _, rfl, h⟩)
  · have h := h.2 hc
    refine bi_Tr 5 (s' := (114, [(0, .ref 77), (1, .int y1), (2, .int y2), (3, .int y3)], [.int ((st_g s6 90 (y1).toNatClampNeg) + ((1 : Int32) <<< (y2 &&& 31))), .int y1, .ref 90], st_mm s6)) rfl ?_
    obtain ⟨hi, h⟩ := h
    refine bi_Tias rfl rfl hi ?_
    refine bi_Tr 1 (s' := (116, [(0, .ref 77), (1, .int y1), (2, .int y2), (3, .int y3)], [.int (1 : Int32)], st_mm (st_p s6 90 (y1).toNatClampNeg ((st_g s6 90 (y1).toNatClampNeg) + ((1 : Int32) <<< (y2 &&& 31)))))) rfl ?_
    exact bi_Tv rfl rfl (Or.inl ⟨_, _, rfl, h⟩)
/-- PolicyRowsModel.grant(IIZ)Z -/
theorem en_X12_grant {X : bi_X} {d : Nat} {K : Int32 → bi_St → Prop} {E : Nat → bi_St → Prop} {s : bi_St} {x0 : Int32} {x1 : Int32} {x2 : Int32}  (h : cI X d 222 [.ref 77, .int x0] (st_p s 77 0 (0 : Int32)) (fun (r1 : Int32) (s1 : bi_St) => ((r1 = 0) → at_X12_grant_21 X (d + 1) K E s1) ∧ (¬ (r1 = 0) → cI X d 222 [.ref 77, .int x1] s1 (fun (r2 : Int32) (s2 : bi_St) => ((¬ r2 = 0) → bi_in x0 144 = true ∧ (((¬ (((st_g s2 90 (x0).toNatClampNeg) >>> (x1 &&& 31)) &&& (1 : Int32)) = (1 : Int32)) → ((x0 = x1) → at_X12_grant_73 X (d + 1) K E s2) ∧ (¬ (x0 = x1) → (((0 : Int32) = x2) → at_X12_grant_73 X (d + 1) K E s2) ∧ (¬ ((0 : Int32) = x2) → ((x2 = 0) → at_X12_grant_87 X (d + 1) K E s2 (x0) (x1) (x2)) ∧ (¬ (x2 = 0) → cI X d 208 [.ref 77, .int (0 : Int32), .int x1] s2 (fun (r3 : Int32) (s3 : bi_St) => ((¬ ((r3 >>> (x0 &&& 31)) &&& (1 : Int32)) = (1 : Int32)) → at_X12_grant_87 X (d + 1) K E s3 (x0) (x1) (x2)) ∧ (¬ (¬ ((r3 >>> (x0 &&& 31)) &&& (1 : Int32)) = (1 : Int32)) → at_X12_grant_73 X (d + 1) K E s3)) (fun _ _ => False))))) ∧ (¬ (¬ (((st_g s2 90 (x0).toNatClampNeg) >>> (x1 &&& 31)) &&& (1 : Int32)) = (1 : Int32)) → ((x0 = x1) → at_X12_grant_73 X (d + 1) K E s2) ∧ (¬ (x0 = x1) → (((1 : Int32) = x2) → at_X12_grant_73 X (d + 1) K E s2) ∧ (¬ ((1 : Int32) = x2) → ((x2 = 0) → at_X12_grant_87 X (d + 1) K E s2 (x0) (x1) (x2)) ∧ (¬ (x2 = 0) → cI X d 208 [.ref 77, .int (0 : Int32), .int x1] s2 (fun (r4 : Int32) (s4 : bi_St) => ((¬ ((r4 >>> (x0 &&& 31)) &&& (1 : Int32)) = (1 : Int32)) → at_X12_grant_87 X (d + 1) K E s4 (x0) (x1) (x2)) ∧ (¬ (¬ ((r4 >>> (x0 &&& 31)) &&& (1 : Int32)) = (1 : Int32)) → at_X12_grant_73 X (d + 1) K E s4)) (fun _ _ => False))))))) ∧ (¬ (¬ r2 = 0) → at_X12_grant_21 X (d + 1) K E s2)) (fun _ _ => False))) (fun _ _ => False)) : cI X (d + 1) 248 [.ref 77, .int x0, .int x1, .int x2] s K E := by
  show bi_T _ _ _ _ _
  refine bi_Tr 5 (s' := (7, [(0, .ref 77), (1, .int x0), (2, .int x1), (3, .int x2)], [.int x0, .ref 77], st_mm (st_p s 77 0 (0 : Int32)))) rfl ?_
  refine bi_TcI (as := [.ref 77, .int x0]) rfl rfl ?_
  refine cI.mono h (fun r1 s1 h => ?_) (fun _ _ h => h.elim)
  refine bi_Tr 1 (s' := ((if r1 = 0 then 21 else 13), [(0, .ref 77), (1, .int x0), (2, .int x1), (3, .int x2)], [], st_mm s1)) rfl (bi_Tif (fun hc => ?_) (fun hc => ?_))
  · have h := h.1 hc
    exact bi_Tww h rfl rfl trivial
  · have h := h.2 hc
    refine bi_Tr 2 (s' := (15, [(0, .ref 77), (1, .int x0), (2, .int x1), (3, .int x2)], [.int x1, .ref 77], st_mm s1)) rfl ?_
    refine bi_TcI (as := [.ref 77, .int x1]) rfl rfl ?_
    refine cI.mono h (fun r2 s2 h => ?_) (fun _ _ h => h.elim)
    refine bi_Tr 1 (s' := ((if ¬ r2 = 0 then 23 else 21), [(0, .ref 77), (1, .int x0), (2, .int x1), (3, .int x2)], [], st_mm s2)) rfl (bi_Tif (fun hc => ?_) (fun hc => ?_))
    · have h := h.1 hc
      refine bi_Tr 3 (s' := (28, [(0, .ref 77), (1, .int x0), (2, .int x1), (3, .int x2)], [.int x0, .ref 90], st_mm s2)) rfl ?_
      obtain ⟨hi, h⟩ := h
      refine bi_Tial rfl rfl rfl hi ?_
      refine bi_Tr 6 (s' := ((if ¬ (((st_g s2 90 (x0).toNatClampNeg) >>> (x1 &&& 31)) &&& (1 : Int32)) = (1 : Int32) then 41 else 37), [(0, .ref 77), (1, .int x0), (2, .int x1), (3, .int x2)], [], st_mm s2)) rfl (bi_Tif (fun hc => ?_) (fun hc => ?_))
      · have h := h.1 hc
        refine bi_Tr 5 (s' := ((if x0 = x1 then 73 else 49), [(4, .int (0 : Int32)), (0, .ref 77), (1, .int x0), (2, .int x1), (3, .int x2)], [], st_mm s2)) rfl (bi_Tif (fun hc => ?_) (fun hc => ?_))
        · have h := h.1 hc
          exact bi_Tww h rfl rfl ⟨rfl, trivial⟩
        · have h := h.2 hc
          refine bi_Tr 3 (s' := ((if (0 : Int32) = x2 then 73 else 55), [(4, .int (0 : Int32)), (0, .ref 77), (1, .int x0), (2, .int x1), (3, .int x2)], [], st_mm s2)) rfl (bi_Tif (fun hc => ?_) (fun hc => ?_))
          · have h := h.1 hc
            exact bi_Tww h rfl rfl ⟨rfl, trivial⟩
          · have h := h.2 hc
            refine bi_Tr 2 (s' := ((if x2 = 0 then 87 else 59), [(4, .int (0 : Int32)), (0, .ref 77), (1, .int x0), (2, .int x1), (3, .int x2)], [], st_mm s2)) rfl (bi_Tif (fun hc => ?_) (fun hc => ?_))
            · have h := h.1 hc
              exact bi_Tww h rfl rfl ⟨rfl, rfl, rfl, rfl, trivial⟩
            · have h := h.2 hc
              refine bi_Tr 3 (s' := (62, [(4, .int (0 : Int32)), (0, .ref 77), (1, .int x0), (2, .int x1), (3, .int x2)], [.int x1, .int (0 : Int32), .ref 77], st_mm s2)) rfl ?_
              refine bi_TcI (as := [.ref 77, .int (0 : Int32), .int x1]) rfl rfl ?_
              refine cI.mono h (fun r3 s3 h => ?_) (fun _ _ h => h.elim)
              refine bi_Tr 6 (s' := ((if ¬ ((r3 >>> (x0 &&& 31)) &&& (1 : Int32)) = (1 : Int32) then 87 else 73), [(4, .int (0 : Int32)), (0, .ref 77), (1, .int x0), (2, .int x1), (3, .int x2)], [], st_mm s3)) rfl (bi_Tif (fun hc => ?_) (fun hc => ?_))
              · have h := h.1 hc
                exact bi_Tww h rfl rfl ⟨rfl, rfl, rfl, rfl, trivial⟩
              · have h := h.2 hc
                exact bi_Tww h rfl rfl ⟨rfl, trivial⟩
      · have h := h.2 hc
        refine bi_Tr 6 (s' := ((if x0 = x1 then 73 else 49), [(4, .int (1 : Int32)), (0, .ref 77), (1, .int x0), (2, .int x1), (3, .int x2)], [], st_mm s2)) rfl (bi_Tif (fun hc => ?_) (fun hc => ?_))
        · have h := h.1 hc
          exact bi_Tww h rfl rfl ⟨rfl, trivial⟩
        · have h := h.2 hc
          refine bi_Tr 3 (s' := ((if (1 : Int32) = x2 then 73 else 55), [(4, .int (1 : Int32)), (0, .ref 77), (1, .int x0), (2, .int x1), (3, .int x2)], [], st_mm s2)) rfl (bi_Tif (fun hc => ?_) (fun hc => ?_))
          · have h := h.1 hc
            exact bi_Tww h rfl rfl ⟨rfl, trivial⟩
          · have h := h.2 hc
            refine bi_Tr 2 (s' := ((if x2 = 0 then 87 else 59), [(4, .int (1 : Int32)), (0, .ref 77), (1, .int x0), (2, .int x1), (3, .int x2)], [], st_mm s2)) rfl (bi_Tif (fun hc => ?_) (fun hc => ?_))
            · have h := h.1 hc
              exact bi_Tww h rfl rfl ⟨rfl, rfl, rfl, rfl, trivial⟩
            · have h := h.2 hc
              refine bi_Tr 3 (s' := (62, [(4, .int (1 : Int32)), (0, .ref 77), (1, .int x0), (2, .int x1), (3, .int x2)], [.int x1, .int (0 : Int32), .ref 77], st_mm s2)) rfl ?_
              refine bi_TcI (as := [.ref 77, .int (0 : Int32), .int x1]) rfl rfl ?_
              refine cI.mono h (fun r4 s4 h => ?_) (fun _ _ h => h.elim)
              refine bi_Tr 6 (s' := ((if ¬ ((r4 >>> (x0 &&& 31)) &&& (1 : Int32)) = (1 : Int32) then 87 else 73), [(4, .int (1 : Int32)), (0, .ref 77), (1, .int x0), (2, .int x1), (3, .int x2)], [], st_mm s4)) rfl (bi_Tif (fun hc => ?_) (fun hc => ?_))
              · have h := h.1 hc
                exact bi_Tww h rfl rfl ⟨rfl, rfl, rfl, rfl, trivial⟩
              · have h := h.2 hc
                exact bi_Tww h rfl rfl ⟨rfl, trivial⟩
    · have h := h.2 hc
      exact bi_Tww h rfl rfl trivial
/-- PolicyRowsModel.turn(IZ)Z -/
theorem en_X12_turn {X : bi_X} {d : Nat} {K : Int32 → bi_St → Prop} {E : Nat → bi_St → Prop} {s : bi_St} {x0 : Int32} {x1 : Int32}  (h : ((x0 < 0) → cI X d 163 [.ref 77, .int (0 : Int32), .int (1 : Int32)] (st_p s 77 0 (0 : Int32)) (fun (r1 : Int32) (s1 : bi_St) => ((¬ r1 = 0) → bi_in (6 : Int32) 144 = true ∧ (((¬ (((st_g s1 90 ((6 : Int32)).toNatClampNeg) >>> (x0 &&& 31)) &&& (1 : Int32)) = (1 : Int32)) → ((¬ (0 : Int32) = x1) → cV X d 204 [.ref 77] s1 (fun (s2 : bi_St) => bi_in (6 : Int32) 144 = true ∧ (((x1 = 0) → bi_in (6 : Int32) 144 = true ∧ (K (1 : Int32) (st_p s2 90 ((6 : Int32)).toNatClampNeg ((st_g s2 90 ((6 : Int32)).toNatClampNeg) + ((0 : Int32) - ((1 : Int32) <<< (x0 &&& 31))))))) ∧ (¬ (x1 = 0) → bi_in (6 : Int32) 144 = true ∧ (K (1 : Int32) (st_p s2 90 ((6 : Int32)).toNatClampNeg ((st_g s2 90 ((6 : Int32)).toNatClampNeg) + ((1 : Int32) <<< (x0 &&& 31)))))))) (fun _ _ => False)) ∧ (¬ (¬ (0 : Int32) = x1) → cI X d 205 [.ref 77, .int (1 : Int32)] s1 (fun (r3 : Int32) (s3 : bi_St) => ((r3 ≤ 0) → K (0 : Int32) s3) ∧ (¬ (r3 ≤ 0) → K (1 : Int32) s3)) (fun _ _ => False))) ∧ (¬ (¬ (((st_g s1 90 ((6 : Int32)).toNatClampNeg) >>> (x0 &&& 31)) &&& (1 : Int32)) = (1 : Int32)) → ((¬ (1 : Int32) = x1) → cV X d 204 [.ref 77] s1 (fun (s4 : bi_St) => bi_in (6 : Int32) 144 = true ∧ (((x1 = 0) → bi_in (6 : Int32) 144 = true ∧ (K (1 : Int32) (st_p s4 90 ((6 : Int32)).toNatClampNeg ((st_g s4 90 ((6 : Int32)).toNatClampNeg) + ((0 : Int32) - ((1 : Int32) <<< (x0 &&& 31))))))) ∧ (¬ (x1 = 0) → bi_in (6 : Int32) 144 = true ∧ (K (1 : Int32) (st_p s4 90 ((6 : Int32)).toNatClampNeg ((st_g s4 90 ((6 : Int32)).toNatClampNeg) + ((1 : Int32) <<< (x0 &&& 31)))))))) (fun _ _ => False)) ∧ (¬ (¬ (1 : Int32) = x1) → cI X d 205 [.ref 77, .int (1 : Int32)] s1 (fun (r5 : Int32) (s5 : bi_St) => ((r5 ≤ 0) → K (0 : Int32) s5) ∧ (¬ (r5 ≤ 0) → K (1 : Int32) s5)) (fun _ _ => False))))) ∧ (¬ (¬ r1 = 0) → K (0 : Int32) s1)) (fun _ _ => False)) ∧ (¬ (x0 < 0) → (((st_g (st_p s 77 0 (0 : Int32)) 77 29) ≤ x0) → cI X d 163 [.ref 77, .int (0 : Int32), .int (1 : Int32)] (st_p s 77 0 (0 : Int32)) (fun (r6 : Int32) (s6 : bi_St) => ((¬ r6 = 0) → bi_in (6 : Int32) 144 = true ∧ (((¬ (((st_g s6 90 ((6 : Int32)).toNatClampNeg) >>> (x0 &&& 31)) &&& (1 : Int32)) = (1 : Int32)) → ((¬ (0 : Int32) = x1) → cV X d 204 [.ref 77] s6 (fun (s7 : bi_St) => bi_in (6 : Int32) 144 = true ∧ (((x1 = 0) → bi_in (6 : Int32) 144 = true ∧ (K (1 : Int32) (st_p s7 90 ((6 : Int32)).toNatClampNeg ((st_g s7 90 ((6 : Int32)).toNatClampNeg) + ((0 : Int32) - ((1 : Int32) <<< (x0 &&& 31))))))) ∧ (¬ (x1 = 0) → bi_in (6 : Int32) 144 = true ∧ (K (1 : Int32) (st_p s7 90 ((6 : Int32)).toNatClampNeg ((st_g s7 90 ((6 : Int32)).toNatClampNeg) + ((1 : Int32) <<< (x0 &&& 31)))))))) (fun _ _ => False)) ∧ (¬ (¬ (0 : Int32) = x1) → cI X d 205 [.ref 77, .int (1 : Int32)] s6 (fun (r8 : Int32) (s8 : bi_St) => ((r8 ≤ 0) → K (0 : Int32) s8) ∧ (¬ (r8 ≤ 0) → K (1 : Int32) s8)) (fun _ _ => False))) ∧ (¬ (¬ (((st_g s6 90 ((6 : Int32)).toNatClampNeg) >>> (x0 &&& 31)) &&& (1 : Int32)) = (1 : Int32)) → ((¬ (1 : Int32) = x1) → cV X d 204 [.ref 77] s6 (fun (s9 : bi_St) => bi_in (6 : Int32) 144 = true ∧ (((x1 = 0) → bi_in (6 : Int32) 144 = true ∧ (K (1 : Int32) (st_p s9 90 ((6 : Int32)).toNatClampNeg ((st_g s9 90 ((6 : Int32)).toNatClampNeg) + ((0 : Int32) - ((1 : Int32) <<< (x0 &&& 31))))))) ∧ (¬ (x1 = 0) → bi_in (6 : Int32) 144 = true ∧ (K (1 : Int32) (st_p s9 90 ((6 : Int32)).toNatClampNeg ((st_g s9 90 ((6 : Int32)).toNatClampNeg) + ((1 : Int32) <<< (x0 &&& 31)))))))) (fun _ _ => False)) ∧ (¬ (¬ (1 : Int32) = x1) → cI X d 205 [.ref 77, .int (1 : Int32)] s6 (fun (r10 : Int32) (s10 : bi_St) => ((r10 ≤ 0) → K (0 : Int32) s10) ∧ (¬ (r10 ≤ 0) → K (1 : Int32) s10)) (fun _ _ => False))))) ∧ (¬ (¬ r6 = 0) → K (0 : Int32) s6)) (fun _ _ => False)) ∧ (¬ ((st_g (st_p s 77 0 (0 : Int32)) 77 29) ≤ x0) → cI X d 163 [.ref 77, .int (1 : Int32), .int (1 : Int32)] (st_p s 77 0 (0 : Int32)) (fun (r11 : Int32) (s11 : bi_St) => ((¬ r11 = 0) → bi_in (6 : Int32) 144 = true ∧ (((¬ (((st_g s11 90 ((6 : Int32)).toNatClampNeg) >>> (x0 &&& 31)) &&& (1 : Int32)) = (1 : Int32)) → ((¬ (0 : Int32) = x1) → cV X d 204 [.ref 77] s11 (fun (s12 : bi_St) => bi_in (6 : Int32) 144 = true ∧ (((x1 = 0) → bi_in (6 : Int32) 144 = true ∧ (K (1 : Int32) (st_p s12 90 ((6 : Int32)).toNatClampNeg ((st_g s12 90 ((6 : Int32)).toNatClampNeg) + ((0 : Int32) - ((1 : Int32) <<< (x0 &&& 31))))))) ∧ (¬ (x1 = 0) → bi_in (6 : Int32) 144 = true ∧ (K (1 : Int32) (st_p s12 90 ((6 : Int32)).toNatClampNeg ((st_g s12 90 ((6 : Int32)).toNatClampNeg) + ((1 : Int32) <<< (x0 &&& 31)))))))) (fun _ _ => False)) ∧ (¬ (¬ (0 : Int32) = x1) → cI X d 205 [.ref 77, .int (1 : Int32)] s11 (fun (r13 : Int32) (s13 : bi_St) => ((r13 ≤ 0) → K (0 : Int32) s13) ∧ (¬ (r13 ≤ 0) → K (1 : Int32) s13)) (fun _ _ => False))) ∧ (¬ (¬ (((st_g s11 90 ((6 : Int32)).toNatClampNeg) >>> (x0 &&& 31)) &&& (1 : Int32)) = (1 : Int32)) → ((¬ (1 : Int32) = x1) → cV X d 204 [.ref 77] s11 (fun (s14 : bi_St) => bi_in (6 : Int32) 144 = true ∧ (((x1 = 0) → bi_in (6 : Int32) 144 = true ∧ (K (1 : Int32) (st_p s14 90 ((6 : Int32)).toNatClampNeg ((st_g s14 90 ((6 : Int32)).toNatClampNeg) + ((0 : Int32) - ((1 : Int32) <<< (x0 &&& 31))))))) ∧ (¬ (x1 = 0) → bi_in (6 : Int32) 144 = true ∧ (K (1 : Int32) (st_p s14 90 ((6 : Int32)).toNatClampNeg ((st_g s14 90 ((6 : Int32)).toNatClampNeg) + ((1 : Int32) <<< (x0 &&& 31)))))))) (fun _ _ => False)) ∧ (¬ (¬ (1 : Int32) = x1) → cI X d 205 [.ref 77, .int (1 : Int32)] s11 (fun (r15 : Int32) (s15 : bi_St) => ((r15 ≤ 0) → K (0 : Int32) s15) ∧ (¬ (r15 ≤ 0) → K (1 : Int32) s15)) (fun _ _ => False))))) ∧ (¬ (¬ r11 = 0) → K (0 : Int32) s11)) (fun _ _ => False)))) : cI X (d + 1) 249 [.ref 77, .int x0, .int x1] s K E := by
  show bi_T _ _ _ _ _
  refine bi_Tr 6 (s' := ((if x0 < 0 then 22 else 10), [(0, .ref 77), (1, .int x0), (2, .int x1)], [.ref 77], st_mm (st_p s 77 0 (0 : Int32)))) rfl (bi_Tif (fun hc => ?_) (fun hc => ?_))
  · have h := h.1 hc
    refine bi_Tr 2 (s' := (24, [(0, .ref 77), (1, .int x0), (2, .int x1)], [.int (1 : Int32), .int (0 : Int32), .ref 77], st_mm (st_p s 77 0 (0 : Int32)))) rfl ?_
    refine bi_TcI (as := [.ref 77, .int (0 : Int32), .int (1 : Int32)]) rfl rfl ?_
    refine cI.mono h (fun r1 s1 h => ?_) (fun _ _ h => h.elim)
    refine bi_Tr 1 (s' := ((if ¬ r1 = 0 then 32 else 30), [(0, .ref 77), (1, .int x0), (2, .int x1)], [], st_mm s1)) rfl (bi_Tif (fun hc => ?_) (fun hc => ?_))
    · have h := h.1 hc
      refine bi_Tr 3 (s' := (38, [(0, .ref 77), (1, .int x0), (2, .int x1)], [.int (6 : Int32), .ref 90], st_mm s1)) rfl ?_
      obtain ⟨hi, h⟩ := h
      refine bi_Tial rfl rfl rfl hi ?_
      refine bi_Tr 6 (s' := ((if ¬ (((st_g s1 90 ((6 : Int32)).toNatClampNeg) >>> (x0 &&& 31)) &&& (1 : Int32)) = (1 : Int32) then 51 else 47), [(0, .ref 77), (1, .int x0), (2, .int x1)], [], st_mm s1)) rfl (bi_Tif (fun hc => ?_) (fun hc => ?_))
      · have h := h.1 hc
        refine bi_Tr 3 (s' := ((if ¬ (0 : Int32) = x1 then 70 else 56), [(0, .ref 77), (1, .int x0), (2, .int x1)], [], st_mm s1)) rfl (bi_Tif (fun hc => ?_) (fun hc => ?_))
        · have h := h.1 hc
          refine bi_Tr 1 (s' := (71, [(0, .ref 77), (1, .int x0), (2, .int x1)], [.ref 77], st_mm s1)) rfl ?_
          refine bi_TcV (as := [.ref 77]) rfl rfl ?_
          refine cV.mono h (fun s2 h => ?_) (fun _ _ h => h.elim)
          refine bi_Tr 4 (s' := (81, [(0, .ref 77), (1, .int x0), (2, .int x1)], [.int (6 : Int32), .ref 90, .int (6 : Int32), .ref 90], st_mm s2)) rfl ?_
          obtain ⟨hi, h⟩ := h
          refine bi_Tial rfl rfl rfl hi ?_
          refine bi_Tr 2 (s' := ((if x1 = 0 then 92 else 86), [(0, .ref 77), (1, .int x0), (2, .int x1)], [.int (st_g s2 90 ((6 : Int32)).toNatClampNeg), .int (6 : Int32), .ref 90], st_mm s2)) rfl (bi_Tif (fun hc => ?_) (fun hc => ?_))
          · have h := h.1 hc
            refine bi_Tr 6 (s' := (98, [(0, .ref 77), (1, .int x0), (2, .int x1)], [.int ((st_g s2 90 ((6 : Int32)).toNatClampNeg) + ((0 : Int32) - ((1 : Int32) <<< (x0 &&& 31)))), .int (6 : Int32), .ref 90], st_mm s2)) rfl ?_
            obtain ⟨hi, h⟩ := h
            refine bi_Tias rfl rfl hi ?_
            refine bi_Tr 1 (s' := (100, [(0, .ref 77), (1, .int x0), (2, .int x1)], [.int (1 : Int32)], st_mm (st_p s2 90 ((6 : Int32)).toNatClampNeg ((st_g s2 90 ((6 : Int32)).toNatClampNeg) + ((0 : Int32) - ((1 : Int32) <<< (x0 &&& 31))))))) rfl ?_
            exact bi_Tv rfl rfl (Or.inl ⟨_, _, rfl, h⟩)
          · have h := h.2 hc
            refine bi_Tr 5 (s' := (98, [(0, .ref 77), (1, .int x0), (2, .int x1)], [.int ((st_g s2 90 ((6 : Int32)).toNatClampNeg) + ((1 : Int32) <<< (x0 &&& 31))), .int (6 : Int32), .ref 90], st_mm s2)) rfl ?_
            obtain ⟨hi, h⟩ := h
            refine bi_Tias rfl rfl hi ?_
            refine bi_Tr 1 (s' := (100, [(0, .ref 77), (1, .int x0), (2, .int x1)], [.int (1 : Int32)], st_mm (st_p s2 90 ((6 : Int32)).toNatClampNeg ((st_g s2 90 ((6 : Int32)).toNatClampNeg) + ((1 : Int32) <<< (x0 &&& 31)))))) rfl ?_
            exact bi_Tv rfl rfl (Or.inl ⟨_, _, rfl, h⟩)
        · have h := h.2 hc
          refine bi_Tr 2 (s' := (58, [(0, .ref 77), (1, .int x0), (2, .int x1)], [.int (1 : Int32), .ref 77], st_mm s1)) rfl ?_
          refine bi_TcI (as := [.ref 77, .int (1 : Int32)]) rfl rfl ?_
          refine cI.mono h (fun r3 s3 h => ?_) (fun _ _ h => h.elim)
          refine bi_Tr 1 (s' := ((if r3 ≤ 0 then 68 else 64), [(0, .ref 77), (1, .int x0), (2, .int x1)], [], st_mm s3)) rfl (bi_Tif (fun hc => ?_) (fun hc => ?_))
          · have h := h.1 hc
            refine bi_Tr 1 (s' := (69, [(0, .ref 77), (1, .int x0), (2, .int x1)], [.int (0 : Int32)], st_mm s3)) rfl ?_
            exact bi_Tv rfl rfl (Or.inl ⟨_, _, rfl, h⟩)
          · have h := h.2 hc
            refine bi_Tr 2 (s' := (69, [(0, .ref 77), (1, .int x0), (2, .int x1)], [.int (1 : Int32)], st_mm s3)) rfl ?_
            exact bi_Tv rfl rfl (Or.inl ⟨_, _, rfl, h⟩)
      · have h := h.2 hc
        refine bi_Tr 4 (s' := ((if ¬ (1 : Int32) = x1 then 70 else 56), [(0, .ref 77), (1, .int x0), (2, .int x1)], [], st_mm s1)) rfl (bi_Tif (fun hc => ?_) (fun hc => ?_))
        · have h := h.1 hc
          refine bi_Tr 1 (s' := (71, [(0, .ref 77), (1, .int x0), (2, .int x1)], [.ref 77], st_mm s1)) rfl ?_
          refine bi_TcV (as := [.ref 77]) rfl rfl ?_
          refine cV.mono h (fun s4 h => ?_) (fun _ _ h => h.elim)
          refine bi_Tr 4 (s' := (81, [(0, .ref 77), (1, .int x0), (2, .int x1)], [.int (6 : Int32), .ref 90, .int (6 : Int32), .ref 90], st_mm s4)) rfl ?_
          obtain ⟨hi, h⟩ := h
          refine bi_Tial rfl rfl rfl hi ?_
          refine bi_Tr 2 (s' := ((if x1 = 0 then 92 else 86), [(0, .ref 77), (1, .int x0), (2, .int x1)], [.int (st_g s4 90 ((6 : Int32)).toNatClampNeg), .int (6 : Int32), .ref 90], st_mm s4)) rfl (bi_Tif (fun hc => ?_) (fun hc => ?_))
          · have h := h.1 hc
            refine bi_Tr 6 (s' := (98, [(0, .ref 77), (1, .int x0), (2, .int x1)], [.int ((st_g s4 90 ((6 : Int32)).toNatClampNeg) + ((0 : Int32) - ((1 : Int32) <<< (x0 &&& 31)))), .int (6 : Int32), .ref 90], st_mm s4)) rfl ?_
            obtain ⟨hi, h⟩ := h
            refine bi_Tias rfl rfl hi ?_
            refine bi_Tr 1 (s' := (100, [(0, .ref 77), (1, .int x0), (2, .int x1)], [.int (1 : Int32)], st_mm (st_p s4 90 ((6 : Int32)).toNatClampNeg ((st_g s4 90 ((6 : Int32)).toNatClampNeg) + ((0 : Int32) - ((1 : Int32) <<< (x0 &&& 31))))))) rfl ?_
            exact bi_Tv rfl rfl (Or.inl ⟨_, _, rfl, h⟩)
          · have h := h.2 hc
            refine bi_Tr 5 (s' := (98, [(0, .ref 77), (1, .int x0), (2, .int x1)], [.int ((st_g s4 90 ((6 : Int32)).toNatClampNeg) + ((1 : Int32) <<< (x0 &&& 31))), .int (6 : Int32), .ref 90], st_mm s4)) rfl ?_
            obtain ⟨hi, h⟩ := h
            refine bi_Tias rfl rfl hi ?_
            refine bi_Tr 1 (s' := (100, [(0, .ref 77), (1, .int x0), (2, .int x1)], [.int (1 : Int32)], st_mm (st_p s4 90 ((6 : Int32)).toNatClampNeg ((st_g s4 90 ((6 : Int32)).toNatClampNeg) + ((1 : Int32) <<< (x0 &&& 31)))))) rfl ?_
            exact bi_Tv rfl rfl (Or.inl ⟨_, _, rfl, h⟩)
        · have h := h.2 hc
          refine bi_Tr 2 (s' := (58, [(0, .ref 77), (1, .int x0), (2, .int x1)], [.int (1 : Int32), .ref 77], st_mm s1)) rfl ?_
          refine bi_TcI (as := [.ref 77, .int (1 : Int32)]) rfl rfl ?_
          refine cI.mono h (fun r5 s5 h => ?_) (fun _ _ h => h.elim)
          refine bi_Tr 1 (s' := ((if r5 ≤ 0 then 68 else 64), [(0, .ref 77), (1, .int x0), (2, .int x1)], [], st_mm s5)) rfl (bi_Tif (fun hc => ?_) (fun hc => ?_))
          · have h := h.1 hc
            refine bi_Tr 1 (s' := (69, [(0, .ref 77), (1, .int x0), (2, .int x1)], [.int (0 : Int32)], st_mm s5)) rfl ?_
            exact bi_Tv rfl rfl (Or.inl ⟨_, _, rfl, h⟩)
          · have h := h.2 hc
            refine bi_Tr 2 (s' := (69, [(0, .ref 77), (1, .int x0), (2, .int x1)], [.int (1 : Int32)], st_mm s5)) rfl ?_
            exact bi_Tv rfl rfl (Or.inl ⟨_, _, rfl, h⟩)
    · have h := h.2 hc
      refine bi_Tr 1 (s' := (31, [(0, .ref 77), (1, .int x0), (2, .int x1)], [.int (0 : Int32)], st_mm s1)) rfl ?_
      exact bi_Tv rfl rfl (Or.inl ⟨_, _, rfl, h⟩)
  · have h := h.2 hc
    refine bi_Tr 4 (s' := ((if (st_g (st_p s 77 0 (0 : Int32)) 77 29) ≤ x0 then 22 else 18), [(0, .ref 77), (1, .int x0), (2, .int x1)], [.ref 77], st_mm (st_p s 77 0 (0 : Int32)))) rfl (bi_Tif (fun hc => ?_) (fun hc => ?_))
    · have h := h.1 hc
      refine bi_Tr 2 (s' := (24, [(0, .ref 77), (1, .int x0), (2, .int x1)], [.int (1 : Int32), .int (0 : Int32), .ref 77], st_mm (st_p s 77 0 (0 : Int32)))) rfl ?_
      refine bi_TcI (as := [.ref 77, .int (0 : Int32), .int (1 : Int32)]) rfl rfl ?_
      refine cI.mono h (fun r6 s6 h => ?_) (fun _ _ h => h.elim)
      refine bi_Tr 1 (s' := ((if ¬ r6 = 0 then 32 else 30), [(0, .ref 77), (1, .int x0), (2, .int x1)], [], st_mm s6)) rfl (bi_Tif (fun hc => ?_) (fun hc => ?_))
      · have h := h.1 hc
        refine bi_Tr 3 (s' := (38, [(0, .ref 77), (1, .int x0), (2, .int x1)], [.int (6 : Int32), .ref 90], st_mm s6)) rfl ?_
        obtain ⟨hi, h⟩ := h
        refine bi_Tial rfl rfl rfl hi ?_
        refine bi_Tr 6 (s' := ((if ¬ (((st_g s6 90 ((6 : Int32)).toNatClampNeg) >>> (x0 &&& 31)) &&& (1 : Int32)) = (1 : Int32) then 51 else 47), [(0, .ref 77), (1, .int x0), (2, .int x1)], [], st_mm s6)) rfl (bi_Tif (fun hc => ?_) (fun hc => ?_))
        · have h := h.1 hc
          refine bi_Tr 3 (s' := ((if ¬ (0 : Int32) = x1 then 70 else 56), [(0, .ref 77), (1, .int x0), (2, .int x1)], [], st_mm s6)) rfl (bi_Tif (fun hc => ?_) (fun hc => ?_))
          · have h := h.1 hc
            refine bi_Tr 1 (s' := (71, [(0, .ref 77), (1, .int x0), (2, .int x1)], [.ref 77], st_mm s6)) rfl ?_
            refine bi_TcV (as := [.ref 77]) rfl rfl ?_
            refine cV.mono h (fun s7 h => ?_) (fun _ _ h => h.elim)
            refine bi_Tr 4 (s' := (81, [(0, .ref 77), (1, .int x0), (2, .int x1)], [.int (6 : Int32), .ref 90, .int (6 : Int32), .ref 90], st_mm s7)) rfl ?_
            obtain ⟨hi, h⟩ := h
            refine bi_Tial rfl rfl rfl hi ?_
            refine bi_Tr 2 (s' := ((if x1 = 0 then 92 else 86), [(0, .ref 77), (1, .int x0), (2, .int x1)], [.int (st_g s7 90 ((6 : Int32)).toNatClampNeg), .int (6 : Int32), .ref 90], st_mm s7)) rfl (bi_Tif (fun hc => ?_) (fun hc => ?_))
            · have h := h.1 hc
              refine bi_Tr 6 (s' := (98, [(0, .ref 77), (1, .int x0), (2, .int x1)], [.int ((st_g s7 90 ((6 : Int32)).toNatClampNeg) + ((0 : Int32) - ((1 : Int32) <<< (x0 &&& 31)))), .int (6 : Int32), .ref 90], st_mm s7)) rfl ?_
              obtain ⟨hi, h⟩ := h
              refine bi_Tias rfl rfl hi ?_
              refine bi_Tr 1 (s' := (100, [(0, .ref 77), (1, .int x0), (2, .int x1)], [.int (1 : Int32)], st_mm (st_p s7 90 ((6 : Int32)).toNatClampNeg ((st_g s7 90 ((6 : Int32)).toNatClampNeg) + ((0 : Int32) - ((1 : Int32) <<< (x0 &&& 31))))))) rfl ?_
              exact bi_Tv rfl rfl (Or.inl ⟨_, _, rfl, h⟩)
            · have h := h.2 hc
              refine bi_Tr 5 (s' := (98, [(0, .ref 77), (1, .int x0), (2, .int x1)], [.int ((st_g s7 90 ((6 : Int32)).toNatClampNeg) + ((1 : Int32) <<< (x0 &&& 31))), .int (6 : Int32), .ref 90], st_mm s7)) rfl ?_
              obtain ⟨hi, h⟩ := h
              refine bi_Tias rfl rfl hi ?_
              refine bi_Tr 1 (s' := (100, [(0, .ref 77), (1, .int x0), (2, .int x1)], [.int (1 : Int32)], st_mm (st_p s7 90 ((6 : Int32)).toNatClampNeg ((st_g s7 90 ((6 : Int32)).toNatClampNeg) + ((1 : Int32) <<< (x0 &&& 31)))))) rfl ?_
              exact bi_Tv rfl rfl (Or.inl ⟨_, _, rfl, h⟩)
          · have h := h.2 hc
            refine bi_Tr 2 (s' := (58, [(0, .ref 77), (1, .int x0), (2, .int x1)], [.int (1 : Int32), .ref 77], st_mm s6)) rfl ?_
            refine bi_TcI (as := [.ref 77, .int (1 : Int32)]) rfl rfl ?_
            refine cI.mono h (fun r8 s8 h => ?_) (fun _ _ h => h.elim)
            refine bi_Tr 1 (s' := ((if r8 ≤ 0 then 68 else 64), [(0, .ref 77), (1, .int x0), (2, .int x1)], [], st_mm s8)) rfl (bi_Tif (fun hc => ?_) (fun hc => ?_))
            · have h := h.1 hc
              refine bi_Tr 1 (s' := (69, [(0, .ref 77), (1, .int x0), (2, .int x1)], [.int (0 : Int32)], st_mm s8)) rfl ?_
              exact bi_Tv rfl rfl (Or.inl ⟨_, _, rfl, h⟩)
            · have h := h.2 hc
              refine bi_Tr 2 (s' := (69, [(0, .ref 77), (1, .int x0), (2, .int x1)], [.int (1 : Int32)], st_mm s8)) rfl ?_
              exact bi_Tv rfl rfl (Or.inl ⟨_, _, rfl, h⟩)
        · have h := h.2 hc
          refine bi_Tr 4 (s' := ((if ¬ (1 : Int32) = x1 then 70 else 56), [(0, .ref 77), (1, .int x0), (2, .int x1)], [], st_mm s6)) rfl (bi_Tif (fun hc => ?_) (fun hc => ?_))
          · have h := h.1 hc
            refine bi_Tr 1 (s' := (71, [(0, .ref 77), (1, .int x0), (2, .int x1)], [.ref 77], st_mm s6)) rfl ?_
            refine bi_TcV (as := [.ref 77]) rfl rfl ?_
            refine cV.mono h (fun s9 h => ?_) (fun _ _ h => h.elim)
            refine bi_Tr 4 (s' := (81, [(0, .ref 77), (1, .int x0), (2, .int x1)], [.int (6 : Int32), .ref 90, .int (6 : Int32), .ref 90], st_mm s9)) rfl ?_
            obtain ⟨hi, h⟩ := h
            refine bi_Tial rfl rfl rfl hi ?_
            refine bi_Tr 2 (s' := ((if x1 = 0 then 92 else 86), [(0, .ref 77), (1, .int x0), (2, .int x1)], [.int (st_g s9 90 ((6 : Int32)).toNatClampNeg), .int (6 : Int32), .ref 90], st_mm s9)) rfl (bi_Tif (fun hc => ?_) (fun hc => ?_))
            · have h := h.1 hc
              refine bi_Tr 6 (s' := (98, [(0, .ref 77), (1, .int x0), (2, .int x1)], [.int ((st_g s9 90 ((6 : Int32)).toNatClampNeg) + ((0 : Int32) - ((1 : Int32) <<< (x0 &&& 31)))), .int (6 : Int32), .ref 90], st_mm s9)) rfl ?_
              obtain ⟨hi, h⟩ := h
              refine bi_Tias rfl rfl hi ?_
              refine bi_Tr 1 (s' := (100, [(0, .ref 77), (1, .int x0), (2, .int x1)], [.int (1 : Int32)], st_mm (st_p s9 90 ((6 : Int32)).toNatClampNeg ((st_g s9 90 ((6 : Int32)).toNatClampNeg) + ((0 : Int32) - ((1 : Int32) <<< (x0 &&& 31))))))) rfl ?_
              exact bi_Tv rfl rfl (Or.inl ⟨_, _, rfl, h⟩)
            · have h := h.2 hc
              refine bi_Tr 5 (s' := (98, [(0, .ref 77), (1, .int x0), (2, .int x1)], [.int ((st_g s9 90 ((6 : Int32)).toNatClampNeg) + ((1 : Int32) <<< (x0 &&& 31))), .int (6 : Int32), .ref 90], st_mm s9)) rfl ?_
              obtain ⟨hi, h⟩ := h
              refine bi_Tias rfl rfl hi ?_
              refine bi_Tr 1 (s' := (100, [(0, .ref 77), (1, .int x0), (2, .int x1)], [.int (1 : Int32)], st_mm (st_p s9 90 ((6 : Int32)).toNatClampNeg ((st_g s9 90 ((6 : Int32)).toNatClampNeg) + ((1 : Int32) <<< (x0 &&& 31)))))) rfl ?_
              exact bi_Tv rfl rfl (Or.inl ⟨_, _, rfl, h⟩)
          · have h := h.2 hc
            refine bi_Tr 2 (s' := (58, [(0, .ref 77), (1, .int x0), (2, .int x1)], [.int (1 : Int32), .ref 77], st_mm s6)) rfl ?_
            refine bi_TcI (as := [.ref 77, .int (1 : Int32)]) rfl rfl ?_
            refine cI.mono h (fun r10 s10 h => ?_) (fun _ _ h => h.elim)
            refine bi_Tr 1 (s' := ((if r10 ≤ 0 then 68 else 64), [(0, .ref 77), (1, .int x0), (2, .int x1)], [], st_mm s10)) rfl (bi_Tif (fun hc => ?_) (fun hc => ?_))
            · have h := h.1 hc
              refine bi_Tr 1 (s' := (69, [(0, .ref 77), (1, .int x0), (2, .int x1)], [.int (0 : Int32)], st_mm s10)) rfl ?_
              exact bi_Tv rfl rfl (Or.inl ⟨_, _, rfl, h⟩)
            · have h := h.2 hc
              refine bi_Tr 2 (s' := (69, [(0, .ref 77), (1, .int x0), (2, .int x1)], [.int (1 : Int32)], st_mm s10)) rfl ?_
              exact bi_Tv rfl rfl (Or.inl ⟨_, _, rfl, h⟩)
      · have h := h.2 hc
        refine bi_Tr 1 (s' := (31, [(0, .ref 77), (1, .int x0), (2, .int x1)], [.int (0 : Int32)], st_mm s6)) rfl ?_
        exact bi_Tv rfl rfl (Or.inl ⟨_, _, rfl, h⟩)
    · have h := h.2 hc
      refine bi_Tr 3 (s' := (24, [(0, .ref 77), (1, .int x0), (2, .int x1)], [.int (1 : Int32), .int (1 : Int32), .ref 77], st_mm (st_p s 77 0 (0 : Int32)))) rfl ?_
      refine bi_TcI (as := [.ref 77, .int (1 : Int32), .int (1 : Int32)]) rfl rfl ?_
      refine cI.mono h (fun r11 s11 h => ?_) (fun _ _ h => h.elim)
      refine bi_Tr 1 (s' := ((if ¬ r11 = 0 then 32 else 30), [(0, .ref 77), (1, .int x0), (2, .int x1)], [], st_mm s11)) rfl (bi_Tif (fun hc => ?_) (fun hc => ?_))
      · have h := h.1 hc
        refine bi_Tr 3 (s' := (38, [(0, .ref 77), (1, .int x0), (2, .int x1)], [.int (6 : Int32), .ref 90], st_mm s11)) rfl ?_
        obtain ⟨hi, h⟩ := h
        refine bi_Tial rfl rfl rfl hi ?_
        refine bi_Tr 6 (s' := ((if ¬ (((st_g s11 90 ((6 : Int32)).toNatClampNeg) >>> (x0 &&& 31)) &&& (1 : Int32)) = (1 : Int32) then 51 else 47), [(0, .ref 77), (1, .int x0), (2, .int x1)], [], st_mm s11)) rfl (bi_Tif (fun hc => ?_) (fun hc => ?_))
        · have h := h.1 hc
          refine bi_Tr 3 (s' := ((if ¬ (0 : Int32) = x1 then 70 else 56), [(0, .ref 77), (1, .int x0), (2, .int x1)], [], st_mm s11)) rfl (bi_Tif (fun hc => ?_) (fun hc => ?_))
          · have h := h.1 hc
            refine bi_Tr 1 (s' := (71, [(0, .ref 77), (1, .int x0), (2, .int x1)], [.ref 77], st_mm s11)) rfl ?_
            refine bi_TcV (as := [.ref 77]) rfl rfl ?_
            refine cV.mono h (fun s12 h => ?_) (fun _ _ h => h.elim)
            refine bi_Tr 4 (s' := (81, [(0, .ref 77), (1, .int x0), (2, .int x1)], [.int (6 : Int32), .ref 90, .int (6 : Int32), .ref 90], st_mm s12)) rfl ?_
            obtain ⟨hi, h⟩ := h
            refine bi_Tial rfl rfl rfl hi ?_
            refine bi_Tr 2 (s' := ((if x1 = 0 then 92 else 86), [(0, .ref 77), (1, .int x0), (2, .int x1)], [.int (st_g s12 90 ((6 : Int32)).toNatClampNeg), .int (6 : Int32), .ref 90], st_mm s12)) rfl (bi_Tif (fun hc => ?_) (fun hc => ?_))
            · have h := h.1 hc
              refine bi_Tr 6 (s' := (98, [(0, .ref 77), (1, .int x0), (2, .int x1)], [.int ((st_g s12 90 ((6 : Int32)).toNatClampNeg) + ((0 : Int32) - ((1 : Int32) <<< (x0 &&& 31)))), .int (6 : Int32), .ref 90], st_mm s12)) rfl ?_
              obtain ⟨hi, h⟩ := h
              refine bi_Tias rfl rfl hi ?_
              refine bi_Tr 1 (s' := (100, [(0, .ref 77), (1, .int x0), (2, .int x1)], [.int (1 : Int32)], st_mm (st_p s12 90 ((6 : Int32)).toNatClampNeg ((st_g s12 90 ((6 : Int32)).toNatClampNeg) + ((0 : Int32) - ((1 : Int32) <<< (x0 &&& 31))))))) rfl ?_
              exact bi_Tv rfl rfl (Or.inl ⟨_, _, rfl, h⟩)
            · have h := h.2 hc
              refine bi_Tr 5 (s' := (98, [(0, .ref 77), (1, .int x0), (2, .int x1)], [.int ((st_g s12 90 ((6 : Int32)).toNatClampNeg) + ((1 : Int32) <<< (x0 &&& 31))), .int (6 : Int32), .ref 90], st_mm s12)) rfl ?_
              obtain ⟨hi, h⟩ := h
              refine bi_Tias rfl rfl hi ?_
              refine bi_Tr 1 (s' := (100, [(0, .ref 77), (1, .int x0), (2, .int x1)], [.int (1 : Int32)], st_mm (st_p s12 90 ((6 : Int32)).toNatClampNeg ((st_g s12 90 ((6 : Int32)).toNatClampNeg) + ((1 : Int32) <<< (x0 &&& 31)))))) rfl ?_
              exact bi_Tv rfl rfl (Or.inl ⟨_, _, rfl, h⟩)
          · have h := h.2 hc
            refine bi_Tr 2 (s' := (58, [(0, .ref 77), (1, .int x0), (2, .int x1)], [.int (1 : Int32), .ref 77], st_mm s11)) rfl ?_
            refine bi_TcI (as := [.ref 77, .int (1 : Int32)]) rfl rfl ?_
            refine cI.mono h (fun r13 s13 h => ?_) (fun _ _ h => h.elim)
            refine bi_Tr 1 (s' := ((if r13 ≤ 0 then 68 else 64), [(0, .ref 77), (1, .int x0), (2, .int x1)], [], st_mm s13)) rfl (bi_Tif (fun hc => ?_) (fun hc => ?_))
            · have h := h.1 hc
              refine bi_Tr 1 (s' := (69, [(0, .ref 77), (1, .int x0), (2, .int x1)], [.int (0 : Int32)], st_mm s13)) rfl ?_
              exact bi_Tv rfl rfl (Or.inl ⟨_, _, rfl, h⟩)
            · have h := h.2 hc
              refine bi_Tr 2 (s' := (69, [(0, .ref 77), (1, .int x0), (2, .int x1)], [.int (1 : Int32)], st_mm s13)) rfl ?_
              exact bi_Tv rfl rfl (Or.inl ⟨_, _, rfl, h⟩)
        · have h := h.2 hc
          refine bi_Tr 4 (s' := ((if ¬ (1 : Int32) = x1 then 70 else 56), [(0, .ref 77), (1, .int x0), (2, .int x1)], [], st_mm s11)) rfl (bi_Tif (fun hc => ?_) (fun hc => ?_))
          · have h := h.1 hc
            refine bi_Tr 1 (s' := (71, [(0, .ref 77), (1, .int x0), (2, .int x1)], [.ref 77], st_mm s11)) rfl ?_
            refine bi_TcV (as := [.ref 77]) rfl rfl ?_
            refine cV.mono h (fun s14 h => ?_) (fun _ _ h => h.elim)
            refine bi_Tr 4 (s' := (81, [(0, .ref 77), (1, .int x0), (2, .int x1)], [.int (6 : Int32), .ref 90, .int (6 : Int32), .ref 90], st_mm s14)) rfl ?_
            obtain ⟨hi, h⟩ := h
            refine bi_Tial rfl rfl rfl hi ?_
            refine bi_Tr 2 (s' := ((if x1 = 0 then 92 else 86), [(0, .ref 77), (1, .int x0), (2, .int x1)], [.int (st_g s14 90 ((6 : Int32)).toNatClampNeg), .int (6 : Int32), .ref 90], st_mm s14)) rfl (bi_Tif (fun hc => ?_) (fun hc => ?_))
            · have h := h.1 hc
              refine bi_Tr 6 (s' := (98, [(0, .ref 77), (1, .int x0), (2, .int x1)], [.int ((st_g s14 90 ((6 : Int32)).toNatClampNeg) + ((0 : Int32) - ((1 : Int32) <<< (x0 &&& 31)))), .int (6 : Int32), .ref 90], st_mm s14)) rfl ?_
              obtain ⟨hi, h⟩ := h
              refine bi_Tias rfl rfl hi ?_
              refine bi_Tr 1 (s' := (100, [(0, .ref 77), (1, .int x0), (2, .int x1)], [.int (1 : Int32)], st_mm (st_p s14 90 ((6 : Int32)).toNatClampNeg ((st_g s14 90 ((6 : Int32)).toNatClampNeg) + ((0 : Int32) - ((1 : Int32) <<< (x0 &&& 31))))))) rfl ?_
              exact bi_Tv rfl rfl (Or.inl ⟨_, _, rfl, h⟩)
            · have h := h.2 hc
              refine bi_Tr 5 (s' := (98, [(0, .ref 77), (1, .int x0), (2, .int x1)], [.int ((st_g s14 90 ((6 : Int32)).toNatClampNeg) + ((1 : Int32) <<< (x0 &&& 31))), .int (6 : Int32), .ref 90], st_mm s14)) rfl ?_
              obtain ⟨hi, h⟩ := h
              refine bi_Tias rfl rfl hi ?_
              refine bi_Tr 1 (s' := (100, [(0, .ref 77), (1, .int x0), (2, .int x1)], [.int (1 : Int32)], st_mm (st_p s14 90 ((6 : Int32)).toNatClampNeg ((st_g s14 90 ((6 : Int32)).toNatClampNeg) + ((1 : Int32) <<< (x0 &&& 31)))))) rfl ?_
              exact bi_Tv rfl rfl (Or.inl ⟨_, _, rfl, h⟩)
          · have h := h.2 hc
            refine bi_Tr 2 (s' := (58, [(0, .ref 77), (1, .int x0), (2, .int x1)], [.int (1 : Int32), .ref 77], st_mm s11)) rfl ?_
            refine bi_TcI (as := [.ref 77, .int (1 : Int32)]) rfl rfl ?_
            refine cI.mono h (fun r15 s15 h => ?_) (fun _ _ h => h.elim)
            refine bi_Tr 1 (s' := ((if r15 ≤ 0 then 68 else 64), [(0, .ref 77), (1, .int x0), (2, .int x1)], [], st_mm s15)) rfl (bi_Tif (fun hc => ?_) (fun hc => ?_))
            · have h := h.1 hc
              refine bi_Tr 1 (s' := (69, [(0, .ref 77), (1, .int x0), (2, .int x1)], [.int (0 : Int32)], st_mm s15)) rfl ?_
              exact bi_Tv rfl rfl (Or.inl ⟨_, _, rfl, h⟩)
            · have h := h.2 hc
              refine bi_Tr 2 (s' := (69, [(0, .ref 77), (1, .int x0), (2, .int x1)], [.int (1 : Int32)], st_mm s15)) rfl ?_
              exact bi_Tv rfl rfl (Or.inl ⟨_, _, rfl, h⟩)
      · have h := h.2 hc
        refine bi_Tr 1 (s' := (31, [(0, .ref 77), (1, .int x0), (2, .int x1)], [.int (0 : Int32)], st_mm s11)) rfl ?_
        exact bi_Tv rfl rfl (Or.inl ⟨_, _, rfl, h⟩)
def at_X12_readers_19 (X : bi_X) (d : Nat) (K : Int32 → bi_St → Prop) (E : Nat → bi_St → Prop) (s : bi_St) (y1 : Int32) (y2 : Int32) (y3 : Int32) : Prop := bi_T X d 250 (19, [(0, .ref 77), (1, .int y1), (2, .int y2), (3, .int y3)], [], st_mm s) (st_RI K E)
theorem go_X12_readers_19 {X : bi_X} {d : Nat} {K : Int32 → bi_St → Prop} {E : Nat → bi_St → Prop}  {s : bi_St} {y1 : Int32} {y2 : Int32} {y3 : Int32}  (h : (((st_g s 77 27) ≤ y3) → K y2 s) ∧ (¬ ((st_g s 77 27) ≤ y3) → cI X d 216 [.ref 77, .int (0 : Int32), .int y3, .int y1] s (fun (r2 : Int32) (s2 : bi_St) => ((r2 = 0) → at_X12_readers_19 X (d + 1) K E s2 (y1) ((y2 ||| (0 : Int32))) ((y3 + (1 : Int32)))) ∧ (¬ (r2 = 0) → at_X12_readers_19 X (d + 1) K E s2 (y1) ((y2 ||| ((1 : Int32) <<< (y3 &&& 31)))) ((y3 + (1 : Int32))))) (fun _ _ => False))) : at_X12_readers_19 X (d + 1) K E s y1 y2 y3 := by
  show bi_T _ _ _ _ _
  refine bi_Tr 4 (s' := ((if (st_g s 77 27) ≤ y3 then 53 else 27), [(0, .ref 77), (1, .int y1), (2, .int y2), (3, .int y3)], [], st_mm s)) rfl (bi_Tif (fun hc => ?_) (fun hc => ?_))
  · have h := h.1 hc
    refine bi_Tr 1 (s' := (54, [(0, .ref 77), (1, .int y1), (2, .int y2), (3, .int y3)], [.int y2], st_mm s)) rfl ?_
    exact bi_Tv rfl rfl (Or.inl ⟨_, _, rfl, h⟩)
  · have h := h.2 hc
    refine bi_Tr 5 (s' := (32, [(0, .ref 77), (1, .int y1), (2, .int y2), (3, .int y3)], [.int y1, .int y3, .int (0 : Int32), .ref 77, .int y2], st_mm s)) rfl ?_
    refine bi_TcI (as := [.ref 77, .int (0 : Int32), .int y3, .int y1]) rfl rfl ?_
    refine cI.mono h (fun r2 s2 h => ?_) (fun _ _ h => h.elim)
    refine bi_Tr 1 (s' := ((if r2 = 0 then 44 else 38), [(0, .ref 77), (1, .int y1), (2, .int y2), (3, .int y3)], [.int y2], st_mm s2)) rfl (bi_Tif (fun hc => ?_) (fun hc => ?_))
    · have h := h.1 hc
      refine bi_Tr 5 (s' := (19, [(3, .int (y3 + (1 : Int32))), (2, .int (y2 ||| (0 : Int32))), (0, .ref 77), (1, .int y1)], [], st_mm s2)) rfl ?_
      exact bi_Tww h rfl rfl ⟨rfl, rfl, rfl, rfl, trivial⟩
    · have h := h.2 hc
      refine bi_Tr 8 (s' := (19, [(3, .int (y3 + (1 : Int32))), (2, .int (y2 ||| ((1 : Int32) <<< (y3 &&& 31)))), (0, .ref 77), (1, .int y1)], [], st_mm s2)) rfl ?_
      exact bi_Tww h rfl rfl ⟨rfl, rfl, rfl, rfl, trivial⟩
/-- PolicyRowsModel.readers(I)I -/
theorem en_X12_readers {X : bi_X} {d : Nat} {K : Int32 → bi_St → Prop} {E : Nat → bi_St → Prop} {s : bi_St} {x0 : Int32}  (h : cI X d 223 [.ref 77, .int x0] (st_p s 77 0 (0 : Int32)) (fun (r1 : Int32) (s1 : bi_St) => ((¬ r1 = 0) → at_X12_readers_19 X (d + 1) K E s1 (x0) ((0 : Int32)) ((0 : Int32))) ∧ (¬ (¬ r1 = 0) → K (0 : Int32) s1)) (fun _ _ => False)) : cI X (d + 1) 250 [.ref 77, .int x0] s K E := by
  show bi_T _ _ _ _ _
  refine bi_Tr 5 (s' := (7, [(0, .ref 77), (1, .int x0)], [.int x0, .ref 77], st_mm (st_p s 77 0 (0 : Int32)))) rfl ?_
  refine bi_TcI (as := [.ref 77, .int x0]) rfl rfl ?_
  refine cI.mono h (fun r1 s1 h => ?_) (fun _ _ h => h.elim)
  refine bi_Tr 1 (s' := ((if ¬ r1 = 0 then 15 else 13), [(0, .ref 77), (1, .int x0)], [], st_mm s1)) rfl (bi_Tif (fun hc => ?_) (fun hc => ?_))
  · have h := h.1 hc
    refine bi_Tr 4 (s' := (19, [(3, .int (0 : Int32)), (2, .int (0 : Int32)), (0, .ref 77), (1, .int x0)], [], st_mm s1)) rfl ?_
    exact bi_Tww h rfl rfl ⟨rfl, rfl, rfl, rfl, trivial⟩
  · have h := h.2 hc
    refine bi_Tr 1 (s' := (14, [(0, .ref 77), (1, .int x0)], [.int (0 : Int32)], st_mm s1)) rfl ?_
    exact bi_Tv rfl rfl (Or.inl ⟨_, _, rfl, h⟩)
def at_X12_may_48 (X : bi_X) (d : Nat) (K : Int32 → bi_St → Prop) (E : Nat → bi_St → Prop) (s : bi_St)  : Prop := bi_T X d 251 (48, [], [], st_mm s) (st_RI K E)
def at_X12_may_82 (X : bi_X) (d : Nat) (K : Int32 → bi_St → Prop) (E : Nat → bi_St → Prop) (s : bi_St)  : Prop := bi_T X d 251 (82, [], [], st_mm s) (st_RI K E)
def at_X12_may_78 (X : bi_X) (d : Nat) (K : Int32 → bi_St → Prop) (E : Nat → bi_St → Prop) (s : bi_St)  : Prop := bi_T X d 251 (78, [], [], st_mm s) (st_RI K E)
theorem go_X12_may_48 {X : bi_X} {d : Nat} {K : Int32 → bi_St → Prop} {E : Nat → bi_St → Prop}  {s : bi_St}   (h : K (0 : Int32) s) : at_X12_may_48 X (d + 1) K E s  := by
  show bi_T _ _ _ _ _
  refine bi_Tr 1 (s' := (49, [], [.int (0 : Int32)], st_mm s)) rfl ?_
  exact bi_Tv rfl rfl (Or.inl ⟨_, _, rfl, h⟩)
theorem go_X12_may_82 {X : bi_X} {d : Nat} {K : Int32 → bi_St → Prop} {E : Nat → bi_St → Prop}  {s : bi_St}   (h : K (0 : Int32) s) : at_X12_may_82 X (d + 1) K E s  := by
  show bi_T _ _ _ _ _
  refine bi_Tr 1 (s' := (83, [], [.int (0 : Int32)], st_mm s)) rfl ?_
  exact bi_Tv rfl rfl (Or.inl ⟨_, _, rfl, h⟩)
theorem go_X12_may_78 {X : bi_X} {d : Nat} {K : Int32 → bi_St → Prop} {E : Nat → bi_St → Prop}  {s : bi_St}   (h : K (1 : Int32) s) : at_X12_may_78 X (d + 1) K E s  := by
  show bi_T _ _ _ _ _
  refine bi_Tr 2 (s' := (83, [], [.int (1 : Int32)], st_mm s)) rfl ?_
  exact bi_Tv rfl rfl (Or.inl ⟨_, _, rfl, h⟩)
/-- PolicyRowsModel.may(III)I -/
theorem en_X12_may {X : bi_X} {d : Nat} {K : Int32 → bi_St → Prop} {E : Nat → bi_St → Prop} {s : bi_St} {x0 : Int32} {x1 : Int32} {x2 : Int32}  (h : cI X d 222 [.ref 77, .int x0] (st_p s 77 0 (0 : Int32)) (fun (r1 : Int32) (s1 : bi_St) => ((r1 = 0) → at_X12_may_48 X (d + 1) K E s1) ∧ (¬ (r1 = 0) → cI X d 223 [.ref 77, .int x1] s1 (fun (r2 : Int32) (s2 : bi_St) => ((r2 = 0) → at_X12_may_48 X (d + 1) K E s2) ∧ (¬ (r2 = 0) → ((x2 = 0) → cI X d 163 [.ref 77, .int (1 : Int32), .int (1 : Int32)] s2 (fun (r3 : Int32) (s3 : bi_St) => ((¬ r3 = 0) → ((¬ x2 = 0) → cI X d 242 [.ref 77, .int (0 : Int32), .int x0, .int x1, .int x2] s3 (fun (r4 : Int32) (s4 : bi_St) => ((r4 = 0) → at_X12_may_82 X (d + 1) K E s4) ∧ (¬ (r4 = 0) → at_X12_may_78 X (d + 1) K E s4)) (fun _ _ => False)) ∧ (¬ (¬ x2 = 0) → cI X d 216 [.ref 77, .int (0 : Int32), .int x0, .int x1] s3 (fun (r5 : Int32) (s5 : bi_St) => ((r5 = 0) → at_X12_may_82 X (d + 1) K E s5) ∧ (¬ (r5 = 0) → at_X12_may_78 X (d + 1) K E s5)) (fun _ _ => False))) ∧ (¬ (¬ r3 = 0) → at_X12_may_48 X (d + 1) K E s3)) (fun _ _ => False)) ∧ (¬ (x2 = 0) → ((x2 = (2 : Int32)) → cI X d 163 [.ref 77, .int (1 : Int32), .int (1 : Int32)] s2 (fun (r6 : Int32) (s6 : bi_St) => ((¬ r6 = 0) → ((¬ x2 = 0) → cI X d 242 [.ref 77, .int (0 : Int32), .int x0, .int x1, .int x2] s6 (fun (r7 : Int32) (s7 : bi_St) => ((r7 = 0) → at_X12_may_82 X (d + 1) K E s7) ∧ (¬ (r7 = 0) → at_X12_may_78 X (d + 1) K E s7)) (fun _ _ => False)) ∧ (¬ (¬ x2 = 0) → cI X d 216 [.ref 77, .int (0 : Int32), .int x0, .int x1] s6 (fun (r8 : Int32) (s8 : bi_St) => ((r8 = 0) → at_X12_may_82 X (d + 1) K E s8) ∧ (¬ (r8 = 0) → at_X12_may_78 X (d + 1) K E s8)) (fun _ _ => False))) ∧ (¬ (¬ r6 = 0) → at_X12_may_48 X (d + 1) K E s6)) (fun _ _ => False)) ∧ (¬ (x2 = (2 : Int32)) → ((¬ x2 = (3 : Int32)) → cI X d 163 [.ref 77, .int (0 : Int32), .int (1 : Int32)] s2 (fun (r9 : Int32) (s9 : bi_St) => ((¬ r9 = 0) → ((¬ x2 = 0) → cI X d 242 [.ref 77, .int (0 : Int32), .int x0, .int x1, .int x2] s9 (fun (r10 : Int32) (s10 : bi_St) => ((r10 = 0) → at_X12_may_82 X (d + 1) K E s10) ∧ (¬ (r10 = 0) → at_X12_may_78 X (d + 1) K E s10)) (fun _ _ => False)) ∧ (¬ (¬ x2 = 0) → cI X d 216 [.ref 77, .int (0 : Int32), .int x0, .int x1] s9 (fun (r11 : Int32) (s11 : bi_St) => ((r11 = 0) → at_X12_may_82 X (d + 1) K E s11) ∧ (¬ (r11 = 0) → at_X12_may_78 X (d + 1) K E s11)) (fun _ _ => False))) ∧ (¬ (¬ r9 = 0) → at_X12_may_48 X (d + 1) K E s9)) (fun _ _ => False)) ∧ (¬ (¬ x2 = (3 : Int32)) → cI X d 163 [.ref 77, .int (1 : Int32), .int (1 : Int32)] s2 (fun (r12 : Int32) (s12 : bi_St) => ((¬ r12 = 0) → ((¬ x2 = 0) → cI X d 242 [.ref 77, .int (0 : Int32), .int x0, .int x1, .int x2] s12 (fun (r13 : Int32) (s13 : bi_St) => ((r13 = 0) → at_X12_may_82 X (d + 1) K E s13) ∧ (¬ (r13 = 0) → at_X12_may_78 X (d + 1) K E s13)) (fun _ _ => False)) ∧ (¬ (¬ x2 = 0) → cI X d 216 [.ref 77, .int (0 : Int32), .int x0, .int x1] s12 (fun (r14 : Int32) (s14 : bi_St) => ((r14 = 0) → at_X12_may_82 X (d + 1) K E s14) ∧ (¬ (r14 = 0) → at_X12_may_78 X (d + 1) K E s14)) (fun _ _ => False))) ∧ (¬ (¬ r12 = 0) → at_X12_may_48 X (d + 1) K E s12)) (fun _ _ => False)))))) (fun _ _ => False))) (fun _ _ => False)) : cI X (d + 1) 251 [.ref 77, .int x0, .int x1, .int x2] s K E := by
  show bi_T _ _ _ _ _
  refine bi_Tr 5 (s' := (7, [(0, .ref 77), (1, .int x0), (2, .int x1), (3, .int x2)], [.int x0, .ref 77], st_mm (st_p s 77 0 (0 : Int32)))) rfl ?_
  refine bi_TcI (as := [.ref 77, .int x0]) rfl rfl ?_
  refine cI.mono h (fun r1 s1 h => ?_) (fun _ _ h => h.elim)
  refine bi_Tr 1 (s' := ((if r1 = 0 then 48 else 13), [(0, .ref 77), (1, .int x0), (2, .int x1), (3, .int x2)], [], st_mm s1)) rfl (bi_Tif (fun hc => ?_) (fun hc => ?_))
  · have h := h.1 hc
    exact bi_Tww h rfl rfl trivial
  · have h := h.2 hc
    refine bi_Tr 2 (s' := (15, [(0, .ref 77), (1, .int x0), (2, .int x1), (3, .int x2)], [.int x1, .ref 77], st_mm s1)) rfl ?_
    refine bi_TcI (as := [.ref 77, .int x1]) rfl rfl ?_
    refine cI.mono h (fun r2 s2 h => ?_) (fun _ _ h => h.elim)
    refine bi_Tr 1 (s' := ((if r2 = 0 then 48 else 21), [(0, .ref 77), (1, .int x0), (2, .int x1), (3, .int x2)], [], st_mm s2)) rfl (bi_Tif (fun hc => ?_) (fun hc => ?_))
    · have h := h.1 hc
      exact bi_Tww h rfl rfl trivial
    · have h := h.2 hc
      refine bi_Tr 3 (s' := ((if x2 = 0 then 36 else 26), [(0, .ref 77), (1, .int x0), (2, .int x1), (3, .int x2)], [.ref 77], st_mm s2)) rfl (bi_Tif (fun hc => ?_) (fun hc => ?_))
      · have h := h.1 hc
        refine bi_Tr 3 (s' := (42, [(0, .ref 77), (1, .int x0), (2, .int x1), (3, .int x2)], [.int (1 : Int32), .int (1 : Int32), .ref 77], st_mm s2)) rfl ?_
        refine bi_TcI (as := [.ref 77, .int (1 : Int32), .int (1 : Int32)]) rfl rfl ?_
        refine cI.mono h (fun r3 s3 h => ?_) (fun _ _ h => h.elim)
        refine bi_Tr 1 (s' := ((if ¬ r3 = 0 then 50 else 48), [(0, .ref 77), (1, .int x0), (2, .int x1), (3, .int x2)], [], st_mm s3)) rfl (bi_Tif (fun hc => ?_) (fun hc => ?_))
        · have h := h.1 hc
          refine bi_Tr 2 (s' := ((if ¬ x2 = 0 then 67 else 54), [(0, .ref 77), (1, .int x0), (2, .int x1), (3, .int x2)], [], st_mm s3)) rfl (bi_Tif (fun hc => ?_) (fun hc => ?_))
          · have h := h.1 hc
            refine bi_Tr 5 (s' := (72, [(0, .ref 77), (1, .int x0), (2, .int x1), (3, .int x2)], [.int x2, .int x1, .int x0, .int (0 : Int32), .ref 77], st_mm s3)) rfl ?_
            refine bi_TcI (as := [.ref 77, .int (0 : Int32), .int x0, .int x1, .int x2]) rfl rfl ?_
            refine cI.mono h (fun r4 s4 h => ?_) (fun _ _ h => h.elim)
            refine bi_Tr 1 (s' := ((if r4 = 0 then 82 else 78), [(0, .ref 77), (1, .int x0), (2, .int x1), (3, .int x2)], [], st_mm s4)) rfl (bi_Tif (fun hc => ?_) (fun hc => ?_))
            · have h := h.1 hc
              exact bi_Tww h rfl rfl trivial
            · have h := h.2 hc
              exact bi_Tww h rfl rfl trivial
          · have h := h.2 hc
            refine bi_Tr 4 (s' := (58, [(0, .ref 77), (1, .int x0), (2, .int x1), (3, .int x2)], [.int x1, .int x0, .int (0 : Int32), .ref 77], st_mm s3)) rfl ?_
            refine bi_TcI (as := [.ref 77, .int (0 : Int32), .int x0, .int x1]) rfl rfl ?_
            refine cI.mono h (fun r5 s5 h => ?_) (fun _ _ h => h.elim)
            refine bi_Tr 1 (s' := ((if r5 = 0 then 82 else 64), [(0, .ref 77), (1, .int x0), (2, .int x1), (3, .int x2)], [], st_mm s5)) rfl (bi_Tif (fun hc => ?_) (fun hc => ?_))
            · have h := h.1 hc
              exact bi_Tww h rfl rfl trivial
            · have h := h.2 hc
              refine bi_Tr 1 (s' := (78, [(0, .ref 77), (1, .int x0), (2, .int x1), (3, .int x2)], [], st_mm s5)) rfl ?_
              exact bi_Tww h rfl rfl trivial
        · have h := h.2 hc
          exact bi_Tww h rfl rfl trivial
      · have h := h.2 hc
        refine bi_Tr 3 (s' := ((if x2 = (2 : Int32) then 36 else 31), [(0, .ref 77), (1, .int x0), (2, .int x1), (3, .int x2)], [.ref 77], st_mm s2)) rfl (bi_Tif (fun hc => ?_) (fun hc => ?_))
        · have h := h.1 hc
          refine bi_Tr 3 (s' := (42, [(0, .ref 77), (1, .int x0), (2, .int x1), (3, .int x2)], [.int (1 : Int32), .int (1 : Int32), .ref 77], st_mm s2)) rfl ?_
          refine bi_TcI (as := [.ref 77, .int (1 : Int32), .int (1 : Int32)]) rfl rfl ?_
          refine cI.mono h (fun r6 s6 h => ?_) (fun _ _ h => h.elim)
          refine bi_Tr 1 (s' := ((if ¬ r6 = 0 then 50 else 48), [(0, .ref 77), (1, .int x0), (2, .int x1), (3, .int x2)], [], st_mm s6)) rfl (bi_Tif (fun hc => ?_) (fun hc => ?_))
          · have h := h.1 hc
            refine bi_Tr 2 (s' := ((if ¬ x2 = 0 then 67 else 54), [(0, .ref 77), (1, .int x0), (2, .int x1), (3, .int x2)], [], st_mm s6)) rfl (bi_Tif (fun hc => ?_) (fun hc => ?_))
            · have h := h.1 hc
              refine bi_Tr 5 (s' := (72, [(0, .ref 77), (1, .int x0), (2, .int x1), (3, .int x2)], [.int x2, .int x1, .int x0, .int (0 : Int32), .ref 77], st_mm s6)) rfl ?_
              refine bi_TcI (as := [.ref 77, .int (0 : Int32), .int x0, .int x1, .int x2]) rfl rfl ?_
              refine cI.mono h (fun r7 s7 h => ?_) (fun _ _ h => h.elim)
              refine bi_Tr 1 (s' := ((if r7 = 0 then 82 else 78), [(0, .ref 77), (1, .int x0), (2, .int x1), (3, .int x2)], [], st_mm s7)) rfl (bi_Tif (fun hc => ?_) (fun hc => ?_))
              · have h := h.1 hc
                exact bi_Tww h rfl rfl trivial
              · have h := h.2 hc
                exact bi_Tww h rfl rfl trivial
            · have h := h.2 hc
              refine bi_Tr 4 (s' := (58, [(0, .ref 77), (1, .int x0), (2, .int x1), (3, .int x2)], [.int x1, .int x0, .int (0 : Int32), .ref 77], st_mm s6)) rfl ?_
              refine bi_TcI (as := [.ref 77, .int (0 : Int32), .int x0, .int x1]) rfl rfl ?_
              refine cI.mono h (fun r8 s8 h => ?_) (fun _ _ h => h.elim)
              refine bi_Tr 1 (s' := ((if r8 = 0 then 82 else 64), [(0, .ref 77), (1, .int x0), (2, .int x1), (3, .int x2)], [], st_mm s8)) rfl (bi_Tif (fun hc => ?_) (fun hc => ?_))
              · have h := h.1 hc
                exact bi_Tww h rfl rfl trivial
              · have h := h.2 hc
                refine bi_Tr 1 (s' := (78, [(0, .ref 77), (1, .int x0), (2, .int x1), (3, .int x2)], [], st_mm s8)) rfl ?_
                exact bi_Tww h rfl rfl trivial
          · have h := h.2 hc
            exact bi_Tww h rfl rfl trivial
        · have h := h.2 hc
          refine bi_Tr 3 (s' := ((if ¬ x2 = (3 : Int32) then 40 else 36), [(0, .ref 77), (1, .int x0), (2, .int x1), (3, .int x2)], [.ref 77], st_mm s2)) rfl (bi_Tif (fun hc => ?_) (fun hc => ?_))
          · have h := h.1 hc
            refine bi_Tr 2 (s' := (42, [(0, .ref 77), (1, .int x0), (2, .int x1), (3, .int x2)], [.int (1 : Int32), .int (0 : Int32), .ref 77], st_mm s2)) rfl ?_
            refine bi_TcI (as := [.ref 77, .int (0 : Int32), .int (1 : Int32)]) rfl rfl ?_
            refine cI.mono h (fun r9 s9 h => ?_) (fun _ _ h => h.elim)
            refine bi_Tr 1 (s' := ((if ¬ r9 = 0 then 50 else 48), [(0, .ref 77), (1, .int x0), (2, .int x1), (3, .int x2)], [], st_mm s9)) rfl (bi_Tif (fun hc => ?_) (fun hc => ?_))
            · have h := h.1 hc
              refine bi_Tr 2 (s' := ((if ¬ x2 = 0 then 67 else 54), [(0, .ref 77), (1, .int x0), (2, .int x1), (3, .int x2)], [], st_mm s9)) rfl (bi_Tif (fun hc => ?_) (fun hc => ?_))
              · have h := h.1 hc
                refine bi_Tr 5 (s' := (72, [(0, .ref 77), (1, .int x0), (2, .int x1), (3, .int x2)], [.int x2, .int x1, .int x0, .int (0 : Int32), .ref 77], st_mm s9)) rfl ?_
                refine bi_TcI (as := [.ref 77, .int (0 : Int32), .int x0, .int x1, .int x2]) rfl rfl ?_
                refine cI.mono h (fun r10 s10 h => ?_) (fun _ _ h => h.elim)
                refine bi_Tr 1 (s' := ((if r10 = 0 then 82 else 78), [(0, .ref 77), (1, .int x0), (2, .int x1), (3, .int x2)], [], st_mm s10)) rfl (bi_Tif (fun hc => ?_) (fun hc => ?_))
                · have h := h.1 hc
                  exact bi_Tww h rfl rfl trivial
                · have h := h.2 hc
                  exact bi_Tww h rfl rfl trivial
              · have h := h.2 hc
                refine bi_Tr 4 (s' := (58, [(0, .ref 77), (1, .int x0), (2, .int x1), (3, .int x2)], [.int x1, .int x0, .int (0 : Int32), .ref 77], st_mm s9)) rfl ?_
                refine bi_TcI (as := [.ref 77, .int (0 : Int32), .int x0, .int x1]) rfl rfl ?_
                refine cI.mono h (fun r11 s11 h => ?_) (fun _ _ h => h.elim)
                refine bi_Tr 1 (s' := ((if r11 = 0 then 82 else 64), [(0, .ref 77), (1, .int x0), (2, .int x1), (3, .int x2)], [], st_mm s11)) rfl (bi_Tif (fun hc => ?_) (fun hc => ?_))
                · have h := h.1 hc
                  exact bi_Tww h rfl rfl trivial
                · have h := h.2 hc
                  refine bi_Tr 1 (s' := (78, [(0, .ref 77), (1, .int x0), (2, .int x1), (3, .int x2)], [], st_mm s11)) rfl ?_
                  exact bi_Tww h rfl rfl trivial
            · have h := h.2 hc
              exact bi_Tww h rfl rfl trivial
          · have h := h.2 hc
            refine bi_Tr 3 (s' := (42, [(0, .ref 77), (1, .int x0), (2, .int x1), (3, .int x2)], [.int (1 : Int32), .int (1 : Int32), .ref 77], st_mm s2)) rfl ?_
            refine bi_TcI (as := [.ref 77, .int (1 : Int32), .int (1 : Int32)]) rfl rfl ?_
            refine cI.mono h (fun r12 s12 h => ?_) (fun _ _ h => h.elim)
            refine bi_Tr 1 (s' := ((if ¬ r12 = 0 then 50 else 48), [(0, .ref 77), (1, .int x0), (2, .int x1), (3, .int x2)], [], st_mm s12)) rfl (bi_Tif (fun hc => ?_) (fun hc => ?_))
            · have h := h.1 hc
              refine bi_Tr 2 (s' := ((if ¬ x2 = 0 then 67 else 54), [(0, .ref 77), (1, .int x0), (2, .int x1), (3, .int x2)], [], st_mm s12)) rfl (bi_Tif (fun hc => ?_) (fun hc => ?_))
              · have h := h.1 hc
                refine bi_Tr 5 (s' := (72, [(0, .ref 77), (1, .int x0), (2, .int x1), (3, .int x2)], [.int x2, .int x1, .int x0, .int (0 : Int32), .ref 77], st_mm s12)) rfl ?_
                refine bi_TcI (as := [.ref 77, .int (0 : Int32), .int x0, .int x1, .int x2]) rfl rfl ?_
                refine cI.mono h (fun r13 s13 h => ?_) (fun _ _ h => h.elim)
                refine bi_Tr 1 (s' := ((if r13 = 0 then 82 else 78), [(0, .ref 77), (1, .int x0), (2, .int x1), (3, .int x2)], [], st_mm s13)) rfl (bi_Tif (fun hc => ?_) (fun hc => ?_))
                · have h := h.1 hc
                  exact bi_Tww h rfl rfl trivial
                · have h := h.2 hc
                  exact bi_Tww h rfl rfl trivial
              · have h := h.2 hc
                refine bi_Tr 4 (s' := (58, [(0, .ref 77), (1, .int x0), (2, .int x1), (3, .int x2)], [.int x1, .int x0, .int (0 : Int32), .ref 77], st_mm s12)) rfl ?_
                refine bi_TcI (as := [.ref 77, .int (0 : Int32), .int x0, .int x1]) rfl rfl ?_
                refine cI.mono h (fun r14 s14 h => ?_) (fun _ _ h => h.elim)
                refine bi_Tr 1 (s' := ((if r14 = 0 then 82 else 64), [(0, .ref 77), (1, .int x0), (2, .int x1), (3, .int x2)], [], st_mm s14)) rfl (bi_Tif (fun hc => ?_) (fun hc => ?_))
                · have h := h.1 hc
                  exact bi_Tww h rfl rfl trivial
                · have h := h.2 hc
                  refine bi_Tr 1 (s' := (78, [(0, .ref 77), (1, .int x0), (2, .int x1), (3, .int x2)], [], st_mm s14)) rfl ?_
                  exact bi_Tww h rfl rfl trivial
            · have h := h.2 hc
              exact bi_Tww h rfl rfl trivial
def at_X12_toSee_28 (X : bi_X) (d : Nat) (K : Int32 → bi_St → Prop) (E : Nat → bi_St → Prop) (s : bi_St) (y1 : Int32) (y2 : Int32) (y3 : Int32) (y4 : Int32) : Prop := bi_T X d 252 (28, [(0, .ref 77), (1, .int y1), (2, .int y2), (3, .int y3), (4, .int y4)], [], st_mm s) (st_RI K E)
theorem go_X12_toSee_28 {X : bi_X} {d : Nat} {K : Int32 → bi_St → Prop} {E : Nat → bi_St → Prop}  {s : bi_St} {y1 : Int32} {y2 : Int32} {y3 : Int32} {y4 : Int32}  (h : ((((1 : Int32) <<< ((st_g s 77 27) &&& 31)) ≤ y4) → K y3 s) ∧ (¬ (((1 : Int32) <<< ((st_g s 77 27) &&& 31)) ≤ y4) → ((((y4 >>> (y1 &&& 31)) &&& (1 : Int32)) = (1 : Int32)) → at_X12_toSee_28 X (d + 1) K E s (y1) (y2) (y3) ((y4 + (1 : Int32)))) ∧ (¬ (((y4 >>> (y1 &&& 31)) &&& (1 : Int32)) = (1 : Int32)) → ((y3 = (-1 : Int32)) → cV X d 207 [.ref 77] s (fun (s3 : bi_St) => bi_in ((72 : Int32) + y1) 144 = true ∧ (bi_in ((72 : Int32) + y1) 144 = true ∧ (cI X d 216 [.ref 77, .int (72 : Int32), .int y1, .int y2] (st_p s3 90 (((72 : Int32) + y1)).toNatClampNeg ((st_g s3 90 (((72 : Int32) + y1)).toNatClampNeg) ||| y4)) (fun (r4 : Int32) (s4 : bi_St) => ((r4 = 0) → at_X12_toSee_28 X (d + 1) K E s4 (y1) (y2) (y3) ((y4 + (1 : Int32)))) ∧ (¬ (r4 = 0) → at_X12_toSee_28 X (d + 1) K E s4 (y1) (y2) (y4) ((y4 + (1 : Int32))))) (fun _ _ => False)))) (fun _ _ => False)) ∧ (¬ (y3 = (-1 : Int32)) → cI X d 166 [.int y4] s (fun (r5 : Int32) (s5 : bi_St) => cI X d 166 [.int y3] s5 (fun (r6 : Int32) (s6 : bi_St) => ((r5 < r6) → cV X d 207 [.ref 77] s6 (fun (s7 : bi_St) => bi_in ((72 : Int32) + y1) 144 = true ∧ (bi_in ((72 : Int32) + y1) 144 = true ∧ (cI X d 216 [.ref 77, .int (72 : Int32), .int y1, .int y2] (st_p s7 90 (((72 : Int32) + y1)).toNatClampNeg ((st_g s7 90 (((72 : Int32) + y1)).toNatClampNeg) ||| y4)) (fun (r8 : Int32) (s8 : bi_St) => ((r8 = 0) → at_X12_toSee_28 X (d + 1) K E s8 (y1) (y2) (y3) ((y4 + (1 : Int32)))) ∧ (¬ (r8 = 0) → at_X12_toSee_28 X (d + 1) K E s8 (y1) (y2) (y4) ((y4 + (1 : Int32))))) (fun _ _ => False)))) (fun _ _ => False)) ∧ (¬ (r5 < r6) → at_X12_toSee_28 X (d + 1) K E s6 (y1) (y2) (y3) ((y4 + (1 : Int32))))) (fun _ _ => False)) (fun _ _ => False))))) : at_X12_toSee_28 X (d + 1) K E s y1 y2 y3 y4 := by
  show bi_T _ _ _ _ _
  refine bi_Tr 6 (s' := ((if ((1 : Int32) <<< ((st_g s 77 27) &&& 31)) ≤ y4 then 107 else 39), [(0, .ref 77), (1, .int y1), (2, .int y2), (3, .int y3), (4, .int y4)], [], st_mm s)) rfl (bi_Tif (fun hc => ?_) (fun hc => ?_))
  · have h := h.1 hc
    refine bi_Tr 1 (s' := (108, [(0, .ref 77), (1, .int y1), (2, .int y2), (3, .int y3), (4, .int y4)], [.int y3], st_mm s)) rfl ?_
    exact bi_Tv rfl rfl (Or.inl ⟨_, _, rfl, h⟩)
  · have h := h.2 hc
    refine bi_Tr 7 (s' := ((if ((y4 >>> (y1 &&& 31)) &&& (1 : Int32)) = (1 : Int32) then 101 else 49), [(0, .ref 77), (1, .int y1), (2, .int y2), (3, .int y3), (4, .int y4)], [], st_mm s)) rfl (bi_Tif (fun hc => ?_) (fun hc => ?_))
    · have h := h.1 hc
      refine bi_Tr 2 (s' := (28, [(4, .int (y4 + (1 : Int32))), (0, .ref 77), (1, .int y1), (2, .int y2), (3, .int y3)], [], st_mm s)) rfl ?_
      exact bi_Tww h rfl rfl ⟨rfl, rfl, rfl, rfl, rfl, trivial⟩
    · have h := h.2 hc
      refine bi_Tr 3 (s' := ((if y3 = (-1 : Int32) then 69 else 54), [(0, .ref 77), (1, .int y1), (2, .int y2), (3, .int y3), (4, .int y4)], [], st_mm s)) rfl (bi_Tif (fun hc => ?_) (fun hc => ?_))
      · have h := h.1 hc
        refine bi_Tr 1 (s' := (70, [(0, .ref 77), (1, .int y1), (2, .int y2), (3, .int y3), (4, .int y4)], [.ref 77], st_mm s)) rfl ?_
        refine bi_TcV (as := [.ref 77]) rfl rfl ?_
        refine cV.mono h (fun s3 h => ?_) (fun _ _ h => h.elim)
        refine bi_Tr 6 (s' := (82, [(0, .ref 77), (1, .int y1), (2, .int y2), (3, .int y3), (4, .int y4)], [.int ((72 : Int32) + y1), .ref 90, .int ((72 : Int32) + y1), .ref 90], st_mm s3)) rfl ?_
        obtain ⟨hi, h⟩ := h
        refine bi_Tial rfl rfl rfl hi ?_
        refine bi_Tr 2 (s' := (86, [(0, .ref 77), (1, .int y1), (2, .int y2), (3, .int y3), (4, .int y4)], [.int ((st_g s3 90 (((72 : Int32) + y1)).toNatClampNeg) ||| y4), .int ((72 : Int32) + y1), .ref 90], st_mm s3)) rfl ?_
        obtain ⟨hi, h⟩ := h
        refine bi_Tias rfl rfl hi ?_
        refine bi_Tr 4 (s' := (92, [(0, .ref 77), (1, .int y1), (2, .int y2), (3, .int y3), (4, .int y4)], [.int y2, .int y1, .int (72 : Int32), .ref 77], st_mm (st_p s3 90 (((72 : Int32) + y1)).toNatClampNeg ((st_g s3 90 (((72 : Int32) + y1)).toNatClampNeg) ||| y4)))) rfl ?_
        refine bi_TcI (as := [.ref 77, .int (72 : Int32), .int y1, .int y2]) rfl rfl ?_
        refine cI.mono h (fun r4 s4 h => ?_) (fun _ _ h => h.elim)
        refine bi_Tr 1 (s' := ((if r4 = 0 then 101 else 98), [(0, .ref 77), (1, .int y1), (2, .int y2), (3, .int y3), (4, .int y4)], [], st_mm s4)) rfl (bi_Tif (fun hc => ?_) (fun hc => ?_))
        · have h := h.1 hc
          refine bi_Tr 2 (s' := (28, [(4, .int (y4 + (1 : Int32))), (0, .ref 77), (1, .int y1), (2, .int y2), (3, .int y3)], [], st_mm s4)) rfl ?_
          exact bi_Tww h rfl rfl ⟨rfl, rfl, rfl, rfl, rfl, trivial⟩
        · have h := h.2 hc
          refine bi_Tr 4 (s' := (28, [(4, .int (y4 + (1 : Int32))), (3, .int y4), (0, .ref 77), (1, .int y1), (2, .int y2)], [], st_mm s4)) rfl ?_
          exact bi_Tww h rfl rfl ⟨rfl, rfl, rfl, rfl, rfl, trivial⟩
      · have h := h.2 hc
        refine bi_Tr 1 (s' := (56, [(0, .ref 77), (1, .int y1), (2, .int y2), (3, .int y3), (4, .int y4)], [.int y4], st_mm s)) rfl ?_
        refine bi_TcI (as := [.int y4]) rfl rfl ?_
        refine cI.mono h (fun r5 s5 h => ?_) (fun _ _ h => h.elim)
        refine bi_Tr 1 (s' := (60, [(0, .ref 77), (1, .int y1), (2, .int y2), (3, .int y3), (4, .int y4)], [.int y3, .int r5], st_mm s5)) rfl ?_
        refine bi_TcI (as := [.int y3]) rfl rfl ?_
        refine cI.mono h (fun r6 s6 h => ?_) (fun _ _ h => h.elim)
        refine bi_Tr 1 (s' := ((if r5 < r6 then 69 else 66), [(0, .ref 77), (1, .int y1), (2, .int y2), (3, .int y3), (4, .int y4)], [], st_mm s6)) rfl (bi_Tif (fun hc => ?_) (fun hc => ?_))
        · have h := h.1 hc
          refine bi_Tr 1 (s' := (70, [(0, .ref 77), (1, .int y1), (2, .int y2), (3, .int y3), (4, .int y4)], [.ref 77], st_mm s6)) rfl ?_
          refine bi_TcV (as := [.ref 77]) rfl rfl ?_
          refine cV.mono h (fun s7 h => ?_) (fun _ _ h => h.elim)
          refine bi_Tr 6 (s' := (82, [(0, .ref 77), (1, .int y1), (2, .int y2), (3, .int y3), (4, .int y4)], [.int ((72 : Int32) + y1), .ref 90, .int ((72 : Int32) + y1), .ref 90], st_mm s7)) rfl ?_
          obtain ⟨hi, h⟩ := h
          refine bi_Tial rfl rfl rfl hi ?_
          refine bi_Tr 2 (s' := (86, [(0, .ref 77), (1, .int y1), (2, .int y2), (3, .int y3), (4, .int y4)], [.int ((st_g s7 90 (((72 : Int32) + y1)).toNatClampNeg) ||| y4), .int ((72 : Int32) + y1), .ref 90], st_mm s7)) rfl ?_
          obtain ⟨hi, h⟩ := h
          refine bi_Tias rfl rfl hi ?_
          refine bi_Tr 4 (s' := (92, [(0, .ref 77), (1, .int y1), (2, .int y2), (3, .int y3), (4, .int y4)], [.int y2, .int y1, .int (72 : Int32), .ref 77], st_mm (st_p s7 90 (((72 : Int32) + y1)).toNatClampNeg ((st_g s7 90 (((72 : Int32) + y1)).toNatClampNeg) ||| y4)))) rfl ?_
          refine bi_TcI (as := [.ref 77, .int (72 : Int32), .int y1, .int y2]) rfl rfl ?_
          refine cI.mono h (fun r8 s8 h => ?_) (fun _ _ h => h.elim)
          refine bi_Tr 1 (s' := ((if r8 = 0 then 101 else 98), [(0, .ref 77), (1, .int y1), (2, .int y2), (3, .int y3), (4, .int y4)], [], st_mm s8)) rfl (bi_Tif (fun hc => ?_) (fun hc => ?_))
          · have h := h.1 hc
            refine bi_Tr 2 (s' := (28, [(4, .int (y4 + (1 : Int32))), (0, .ref 77), (1, .int y1), (2, .int y2), (3, .int y3)], [], st_mm s8)) rfl ?_
            exact bi_Tww h rfl rfl ⟨rfl, rfl, rfl, rfl, rfl, trivial⟩
          · have h := h.2 hc
            refine bi_Tr 4 (s' := (28, [(4, .int (y4 + (1 : Int32))), (3, .int y4), (0, .ref 77), (1, .int y1), (2, .int y2)], [], st_mm s8)) rfl ?_
            exact bi_Tww h rfl rfl ⟨rfl, rfl, rfl, rfl, rfl, trivial⟩
        · have h := h.2 hc
          refine bi_Tr 3 (s' := (28, [(4, .int (y4 + (1 : Int32))), (0, .ref 77), (1, .int y1), (2, .int y2), (3, .int y3)], [], st_mm s6)) rfl ?_
          exact bi_Tww h rfl rfl ⟨rfl, rfl, rfl, rfl, rfl, trivial⟩
/-- PolicyRowsModel.toSee(II)I -/
theorem en_X12_toSee {X : bi_X} {d : Nat} {K : Int32 → bi_St → Prop} {E : Nat → bi_St → Prop} {s : bi_St} {x0 : Int32} {x1 : Int32}  (h : cI X d 222 [.ref 77, .int x0] (st_p s 77 0 (0 : Int32)) (fun (r1 : Int32) (s1 : bi_St) => ((r1 = 0) → K (0 : Int32) s1) ∧ (¬ (r1 = 0) → cI X d 223 [.ref 77, .int x1] s1 (fun (r2 : Int32) (s2 : bi_St) => ((¬ r2 = 0) → at_X12_toSee_28 X (d + 1) K E s2 (x0) (x1) ((-1 : Int32)) ((0 : Int32))) ∧ (¬ (¬ r2 = 0) → K (0 : Int32) s2)) (fun _ _ => False))) (fun _ _ => False)) : cI X (d + 1) 252 [.ref 77, .int x0, .int x1] s K E := by
  show bi_T _ _ _ _ _
  refine bi_Tr 5 (s' := (7, [(0, .ref 77), (1, .int x0), (2, .int x1)], [.int x0, .ref 77], st_mm (st_p s 77 0 (0 : Int32)))) rfl ?_
  refine bi_TcI (as := [.ref 77, .int x0]) rfl rfl ?_
  refine cI.mono h (fun r1 s1 h => ?_) (fun _ _ h => h.elim)
  refine bi_Tr 1 (s' := ((if r1 = 0 then 21 else 13), [(0, .ref 77), (1, .int x0), (2, .int x1)], [], st_mm s1)) rfl (bi_Tif (fun hc => ?_) (fun hc => ?_))
  · have h := h.1 hc
    refine bi_Tr 1 (s' := (22, [(0, .ref 77), (1, .int x0), (2, .int x1)], [.int (0 : Int32)], st_mm s1)) rfl ?_
    exact bi_Tv rfl rfl (Or.inl ⟨_, _, rfl, h⟩)
  · have h := h.2 hc
    refine bi_Tr 2 (s' := (15, [(0, .ref 77), (1, .int x0), (2, .int x1)], [.int x1, .ref 77], st_mm s1)) rfl ?_
    refine bi_TcI (as := [.ref 77, .int x1]) rfl rfl ?_
    refine cI.mono h (fun r2 s2 h => ?_) (fun _ _ h => h.elim)
    refine bi_Tr 1 (s' := ((if ¬ r2 = 0 then 23 else 21), [(0, .ref 77), (1, .int x0), (2, .int x1)], [], st_mm s2)) rfl (bi_Tif (fun hc => ?_) (fun hc => ?_))
    · have h := h.1 hc
      refine bi_Tr 4 (s' := (28, [(4, .int (0 : Int32)), (3, .int (-1 : Int32)), (0, .ref 77), (1, .int x0), (2, .int x1)], [], st_mm s2)) rfl ?_
      exact bi_Tww h rfl rfl ⟨rfl, rfl, rfl, rfl, rfl, trivial⟩
    · have h := h.2 hc
      refine bi_Tr 1 (s' := (22, [(0, .ref 77), (1, .int x0), (2, .int x1)], [.int (0 : Int32)], st_mm s2)) rfl ?_
      exact bi_Tv rfl rfl (Or.inl ⟨_, _, rfl, h⟩)
/-- PolicyRowsModel.isEscape(IIII)Z -/
theorem en_X12_isEscape {X : bi_X} {d : Nat} {K : Int32 → bi_St → Prop} {E : Nat → bi_St → Prop} {s : bi_St} {x0 : Int32} {x1 : Int32} {x2 : Int32} {x3 : Int32}  (h : bi_in (((8 : Int32) + ((4 : Int32) * x1)) + x2) 144 = true ∧ ((((st_g s 90 ((((8 : Int32) + ((4 : Int32) * x1)) + x2)).toNatClampNeg) = x3) → K (0 : Int32) s) ∧ (¬ ((st_g s 90 ((((8 : Int32) + ((4 : Int32) * x1)) + x2)).toNatClampNeg) = x3) → cI X d 242 [.ref 77, .int (0 : Int32), .int x0, .int x1, .int (2 : Int32)] s (fun (r1 : Int32) (s1 : bi_St) => ((r1 = 0) → K (0 : Int32) s1) ∧ (¬ (r1 = 0) → cI X d 243 [.ref 77, .int (0 : Int32), .int x0, .int x1, .int x2, .int x3] s1 (fun (r2 : Int32) (s2 : bi_St) => ((¬ r2 = 0) → cV X d 207 [.ref 77] s2 (fun (s3 : bi_St) => bi_in (((80 : Int32) + ((4 : Int32) * x1)) + x2) 144 = true ∧ (cI X d 216 [.ref 77, .int (72 : Int32), .int x0, .int x1] (st_p s3 90 ((((80 : Int32) + ((4 : Int32) * x1)) + x2)).toNatClampNeg x3) (fun (r4 : Int32) (s4 : bi_St) => ((¬ r4 = 0) → K (0 : Int32) s4) ∧ (¬ (¬ r4 = 0) → K (1 : Int32) s4)) (fun _ _ => False))) (fun _ _ => False)) ∧ (¬ (¬ r2 = 0) → K (0 : Int32) s2)) (fun _ _ => False))) (fun _ _ => False)))) : cI X (d + 1) 253 [.ref 77, .int x0, .int x1, .int x2, .int x3] s K E := by
  show bi_T _ _ _ _ _
  refine bi_Tr 9 (s' := (12, [(0, .ref 77), (1, .int x0), (2, .int x1), (3, .int x2), (4, .int x3)], [.int (((8 : Int32) + ((4 : Int32) * x1)) + x2), .ref 90], st_mm s)) rfl ?_
  obtain ⟨hi, h⟩ := h
  refine bi_Tial rfl rfl rfl hi ?_
  refine bi_Tr 2 (s' := ((if (st_g s 90 ((((8 : Int32) + ((4 : Int32) * x1)) + x2)).toNatClampNeg) = x3 then 42 else 18), [(0, .ref 77), (1, .int x0), (2, .int x1), (3, .int x2), (4, .int x3)], [], st_mm s)) rfl (bi_Tif (fun hc => ?_) (fun hc => ?_))
  · have h := h.1 hc
    refine bi_Tr 1 (s' := (43, [(0, .ref 77), (1, .int x0), (2, .int x1), (3, .int x2), (4, .int x3)], [.int (0 : Int32)], st_mm s)) rfl ?_
    exact bi_Tv rfl rfl (Or.inl ⟨_, _, rfl, h⟩)
  · have h := h.2 hc
    refine bi_Tr 5 (s' := (23, [(0, .ref 77), (1, .int x0), (2, .int x1), (3, .int x2), (4, .int x3)], [.int (2 : Int32), .int x1, .int x0, .int (0 : Int32), .ref 77], st_mm s)) rfl ?_
    refine bi_TcI (as := [.ref 77, .int (0 : Int32), .int x0, .int x1, .int (2 : Int32)]) rfl rfl ?_
    refine cI.mono h (fun r1 s1 h => ?_) (fun _ _ h => h.elim)
    refine bi_Tr 1 (s' := ((if r1 = 0 then 42 else 29), [(0, .ref 77), (1, .int x0), (2, .int x1), (3, .int x2), (4, .int x3)], [], st_mm s1)) rfl (bi_Tif (fun hc => ?_) (fun hc => ?_))
    · have h := h.1 hc
      refine bi_Tr 1 (s' := (43, [(0, .ref 77), (1, .int x0), (2, .int x1), (3, .int x2), (4, .int x3)], [.int (0 : Int32)], st_mm s1)) rfl ?_
      exact bi_Tv rfl rfl (Or.inl ⟨_, _, rfl, h⟩)
    · have h := h.2 hc
      refine bi_Tr 6 (s' := (36, [(0, .ref 77), (1, .int x0), (2, .int x1), (3, .int x2), (4, .int x3)], [.int x3, .int x2, .int x1, .int x0, .int (0 : Int32), .ref 77], st_mm s1)) rfl ?_
      refine bi_TcI (as := [.ref 77, .int (0 : Int32), .int x0, .int x1, .int x2, .int x3]) rfl rfl ?_
      refine cI.mono h (fun r2 s2 h => ?_) (fun _ _ h => h.elim)
      refine bi_Tr 1 (s' := ((if ¬ r2 = 0 then 44 else 42), [(0, .ref 77), (1, .int x0), (2, .int x1), (3, .int x2), (4, .int x3)], [], st_mm s2)) rfl (bi_Tif (fun hc => ?_) (fun hc => ?_))
      · have h := h.1 hc
        refine bi_Tr 1 (s' := (45, [(0, .ref 77), (1, .int x0), (2, .int x1), (3, .int x2), (4, .int x3)], [.ref 77], st_mm s2)) rfl ?_
        refine bi_TcV (as := [.ref 77]) rfl rfl ?_
        refine cV.mono h (fun s3 h => ?_) (fun _ _ h => h.elim)
        refine bi_Tr 10 (s' := (62, [(0, .ref 77), (1, .int x0), (2, .int x1), (3, .int x2), (4, .int x3)], [.int x3, .int (((80 : Int32) + ((4 : Int32) * x1)) + x2), .ref 90], st_mm s3)) rfl ?_
        obtain ⟨hi, h⟩ := h
        refine bi_Tias rfl rfl hi ?_
        refine bi_Tr 4 (s' := (68, [(0, .ref 77), (1, .int x0), (2, .int x1), (3, .int x2), (4, .int x3)], [.int x1, .int x0, .int (72 : Int32), .ref 77], st_mm (st_p s3 90 ((((80 : Int32) + ((4 : Int32) * x1)) + x2)).toNatClampNeg x3))) rfl ?_
        refine bi_TcI (as := [.ref 77, .int (72 : Int32), .int x0, .int x1]) rfl rfl ?_
        refine cI.mono h (fun r4 s4 h => ?_) (fun _ _ h => h.elim)
        refine bi_Tr 1 (s' := ((if ¬ r4 = 0 then 78 else 74), [(0, .ref 77), (1, .int x0), (2, .int x1), (3, .int x2), (4, .int x3)], [], st_mm s4)) rfl (bi_Tif (fun hc => ?_) (fun hc => ?_))
        · have h := h.1 hc
          refine bi_Tr 1 (s' := (79, [(0, .ref 77), (1, .int x0), (2, .int x1), (3, .int x2), (4, .int x3)], [.int (0 : Int32)], st_mm s4)) rfl ?_
          exact bi_Tv rfl rfl (Or.inl ⟨_, _, rfl, h⟩)
        · have h := h.2 hc
          refine bi_Tr 2 (s' := (79, [(0, .ref 77), (1, .int x0), (2, .int x1), (3, .int x2), (4, .int x3)], [.int (1 : Int32)], st_mm s4)) rfl ?_
          exact bi_Tv rfl rfl (Or.inl ⟨_, _, rfl, h⟩)
      · have h := h.2 hc
        refine bi_Tr 1 (s' := (43, [(0, .ref 77), (1, .int x0), (2, .int x1), (3, .int x2), (4, .int x3)], [.int (0 : Int32)], st_mm s2)) rfl ?_
        exact bi_Tv rfl rfl (Or.inl ⟨_, _, rfl, h⟩)
/-- PolicyRowsModel.cellOf(III)I -/
theorem en_X12_cellOf {X : bi_X} {d : Nat} {K : Int32 → bi_St → Prop} {E : Nat → bi_St → Prop} {s : bi_St} {x0 : Int32} {x1 : Int32} {x2 : Int32}  (h : K (((((1000 : Int32) * x0) + ((100 : Int32) * x1)) + x2) + (50 : Int32)) s) : cI X d 254 [.int x0, .int x1, .int x2] s K E := by
  show bi_T _ _ _ _ _
  refine bi_Tr 11 (s' := (15, [(0, .int x0), (1, .int x1), (2, .int x2)], [.int (((((1000 : Int32) * x0) + ((100 : Int32) * x1)) + x2) + (50 : Int32))], st_mm s)) rfl ?_
  exact bi_Tv rfl rfl (Or.inl ⟨_, _, rfl, h⟩)
def at_X12_escapes_32 (X : bi_X) (d : Nat) (K : Int32 → bi_St → Prop) (E : Nat → bi_St → Prop) (s : bi_St) (y1 : Int32) (y2 : Int32) (y3 : Int32) (y4 : Int32) (y5 : Int32) : Prop := bi_T X d 255 (32, [(0, .ref 77), (1, .int y1), (2, .int y2), (3, .int y3), (4, .int y4), (5, .int y5)], [], st_mm s) (st_RI K E)
def at_X12_escapes_47 (X : bi_X) (d : Nat) (K : Int32 → bi_St → Prop) (E : Nat → bi_St → Prop) (s : bi_St) (y1 : Int32) (y2 : Int32) (y3 : Int32) (y4 : Int32) (y5 : Int32) (y6 : Int32) : Prop := bi_T X d 255 (47, [(0, .ref 77), (1, .int y1), (2, .int y2), (3, .int y3), (4, .int y4), (5, .int y5), (6, .int y6)], [], st_mm s) (st_RI K E)
def at_X12_escapes_60 (X : bi_X) (d : Nat) (K : Int32 → bi_St → Prop) (E : Nat → bi_St → Prop) (s : bi_St) (y1 : Int32) (y2 : Int32) (y3 : Int32) (y4 : Int32) (y5 : Int32) (y6 : Int32) (y7 : Int32) : Prop := bi_T X d 255 (60, [(0, .ref 77), (1, .int y1), (2, .int y2), (3, .int y3), (4, .int y4), (5, .int y5), (6, .int y6), (7, .int y7)], [], st_mm s) (st_RI K E)
theorem go_X12_escapes_32 {X : bi_X} {d : Nat} {K : Int32 → bi_St → Prop} {E : Nat → bi_St → Prop}  {s : bi_St} {y1 : Int32} {y2 : Int32} {y3 : Int32} {y4 : Int32} {y5 : Int32}  (h : bi_in (7 : Int32) 144 = true ∧ ((((st_g s 90 ((7 : Int32)).toNatClampNeg) ≤ y5) → ((¬ y2 = 0) → K y4 s) ∧ (¬ (¬ y2 = 0) → K y3 s)) ∧ (¬ ((st_g s 90 ((7 : Int32)).toNatClampNeg) ≤ y5) → at_X12_escapes_47 X (d + 1) K E s (y1) (y2) (y3) (y4) (y5) ((0 : Int32))))) : at_X12_escapes_32 X (d + 1) K E s y1 y2 y3 y4 y5 := by
  show bi_T _ _ _ _ _
  refine bi_Tr 4 (s' := (40, [(0, .ref 77), (1, .int y1), (2, .int y2), (3, .int y3), (4, .int y4), (5, .int y5)], [.int (7 : Int32), .ref 90, .int y5], st_mm s)) rfl ?_
  obtain ⟨hi, h⟩ := h
  refine bi_Tial rfl rfl rfl hi ?_
  refine bi_Tr 1 (s' := ((if (st_g s 90 ((7 : Int32)).toNatClampNeg) ≤ y5 then 122 else 44), [(0, .ref 77), (1, .int y1), (2, .int y2), (3, .int y3), (4, .int y4), (5, .int y5)], [], st_mm s)) rfl (bi_Tif (fun hc => ?_) (fun hc => ?_))
  · have h := h.1 hc
    refine bi_Tr 2 (s' := ((if ¬ y2 = 0 then 130 else 126), [(0, .ref 77), (1, .int y1), (2, .int y2), (3, .int y3), (4, .int y4), (5, .int y5)], [], st_mm s)) rfl (bi_Tif (fun hc => ?_) (fun hc => ?_))
    · have h := h.1 hc
      refine bi_Tr 1 (s' := (132, [(0, .ref 77), (1, .int y1), (2, .int y2), (3, .int y3), (4, .int y4), (5, .int y5)], [.int y4], st_mm s)) rfl ?_
      exact bi_Tv rfl rfl (Or.inl ⟨_, _, rfl, h⟩)
    · have h := h.2 hc
      refine bi_Tr 2 (s' := (132, [(0, .ref 77), (1, .int y1), (2, .int y2), (3, .int y3), (4, .int y4), (5, .int y5)], [.int y3], st_mm s)) rfl ?_
      exact bi_Tv rfl rfl (Or.inl ⟨_, _, rfl, h⟩)
  · have h := h.2 hc
    refine bi_Tr 2 (s' := (47, [(6, .int (0 : Int32)), (0, .ref 77), (1, .int y1), (2, .int y2), (3, .int y3), (4, .int y4), (5, .int y5)], [], st_mm s)) rfl ?_
    exact bi_Tww h rfl rfl ⟨rfl, rfl, rfl, rfl, rfl, rfl, rfl, trivial⟩
theorem go_X12_escapes_47 {X : bi_X} {d : Nat} {K : Int32 → bi_St → Prop} {E : Nat → bi_St → Prop}  {s : bi_St} {y1 : Int32} {y2 : Int32} {y3 : Int32} {y4 : Int32} {y5 : Int32} {y6 : Int32}  (h : (((st_g s 77 28) ≤ y6) → at_X12_escapes_32 X (d + 1) K E s (y1) (y2) (y3) (y4) ((y5 + (1 : Int32)))) ∧ (¬ ((st_g s 77 28) ≤ y6) → at_X12_escapes_60 X (d + 1) K E s (y1) (y2) (y3) (y4) (y5) (y6) ((-9 : Int32)))) : at_X12_escapes_47 X (d + 1) K E s y1 y2 y3 y4 y5 y6 := by
  show bi_T _ _ _ _ _
  refine bi_Tr 4 (s' := ((if (st_g s 77 28) ≤ y6 then 116 else 56), [(0, .ref 77), (1, .int y1), (2, .int y2), (3, .int y3), (4, .int y4), (5, .int y5), (6, .int y6)], [], st_mm s)) rfl (bi_Tif (fun hc => ?_) (fun hc => ?_))
  · have h := h.1 hc
    refine bi_Tr 2 (s' := (32, [(5, .int (y5 + (1 : Int32))), (0, .ref 77), (1, .int y1), (2, .int y2), (3, .int y3), (4, .int y4), (6, .int y6)], [], st_mm s)) rfl ?_
    exact bi_Tww h rfl rfl ⟨rfl, rfl, rfl, rfl, rfl, rfl, trivial⟩
  · have h := h.2 hc
    refine bi_Tr 2 (s' := (60, [(7, .int (-9 : Int32)), (0, .ref 77), (1, .int y1), (2, .int y2), (3, .int y3), (4, .int y4), (5, .int y5), (6, .int y6)], [], st_mm s)) rfl ?_
    exact bi_Tww h rfl rfl ⟨rfl, rfl, rfl, rfl, rfl, rfl, rfl, rfl, trivial⟩
theorem go_X12_escapes_60 {X : bi_X} {d : Nat} {K : Int32 → bi_St → Prop} {E : Nat → bi_St → Prop}  {s : bi_St} {y1 : Int32} {y2 : Int32} {y3 : Int32} {y4 : Int32} {y5 : Int32} {y6 : Int32} {y7 : Int32}  (h : (((10 : Int32) ≤ y7) → at_X12_escapes_47 X (d + 1) K E s (y1) (y2) (y3) (y4) (y5) ((y6 + (1 : Int32)))) ∧ (¬ ((10 : Int32) ≤ y7) → cI X d 253 [.ref 77, .int y1, .int y5, .int y6, .int y7] s (fun (r3 : Int32) (s3 : bi_St) => ((¬ r3 = 0) → ((¬ y4 = (-1 : Int32)) → at_X12_escapes_60 X (d + 1) K E s3 (y1) (y2) ((y3 + (1 : Int32))) (y4) (y5) (y6) ((y7 + (1 : Int32)))) ∧ (¬ (¬ y4 = (-1 : Int32)) → cI X d 254 [.int y5, .int y6, .int y7] s3 (fun (r4 : Int32) (s4 : bi_St) => at_X12_escapes_60 X (d + 1) K E s4 (y1) (y2) ((y3 + (1 : Int32))) (r4) (y5) (y6) ((y7 + (1 : Int32)))) (fun _ _ => False))) ∧ (¬ (¬ r3 = 0) → at_X12_escapes_60 X (d + 1) K E s3 (y1) (y2) (y3) (y4) (y5) (y6) ((y7 + (1 : Int32))))) (fun _ _ => False))) : at_X12_escapes_60 X (d + 1) K E s y1 y2 y3 y4 y5 y6 y7 := by
  show bi_T _ _ _ _ _
  refine bi_Tr 3 (s' := ((if (10 : Int32) ≤ y7 then 110 else 67), [(0, .ref 77), (1, .int y1), (2, .int y2), (3, .int y3), (4, .int y4), (5, .int y5), (6, .int y6), (7, .int y7)], [], st_mm s)) rfl (bi_Tif (fun hc => ?_) (fun hc => ?_))
  · have h := h.1 hc
    refine bi_Tr 2 (s' := (47, [(6, .int (y6 + (1 : Int32))), (0, .ref 77), (1, .int y1), (2, .int y2), (3, .int y3), (4, .int y4), (5, .int y5), (7, .int y7)], [], st_mm s)) rfl ?_
    exact bi_Tww h rfl rfl ⟨rfl, rfl, rfl, rfl, rfl, rfl, rfl, trivial⟩
  · have h := h.2 hc
    refine bi_Tr 5 (s' := (75, [(0, .ref 77), (1, .int y1), (2, .int y2), (3, .int y3), (4, .int y4), (5, .int y5), (6, .int y6), (7, .int y7)], [.int y7, .int y6, .int y5, .int y1, .ref 77], st_mm s)) rfl ?_
    refine bi_TcI (as := [.ref 77, .int y1, .int y5, .int y6, .int y7]) rfl rfl ?_
    refine cI.mono h (fun r3 s3 h => ?_) (fun _ _ h => h.elim)
    refine bi_Tr 1 (s' := ((if ¬ r3 = 0 then 84 else 81), [(0, .ref 77), (1, .int y1), (2, .int y2), (3, .int y3), (4, .int y4), (5, .int y5), (6, .int y6), (7, .int y7)], [], st_mm s3)) rfl (bi_Tif (fun hc => ?_) (fun hc => ?_))
    · have h := h.1 hc
      refine bi_Tr 4 (s' := ((if ¬ y4 = (-1 : Int32) then 104 else 93), [(3, .int (y3 + (1 : Int32))), (0, .ref 77), (1, .int y1), (2, .int y2), (4, .int y4), (5, .int y5), (6, .int y6), (7, .int y7)], [], st_mm s3)) rfl (bi_Tif (fun hc => ?_) (fun hc => ?_))
      · have h := h.1 hc
        refine bi_Tr 2 (s' := (60, [(7, .int (y7 + (1 : Int32))), (3, .int (y3 + (1 : Int32))), (0, .ref 77), (1, .int y1), (2, .int y2), (4, .int y4), (5, .int y5), (6, .int y6)], [], st_mm s3)) rfl ?_
        exact bi_Tww h rfl rfl ⟨rfl, rfl, rfl, rfl, rfl, rfl, rfl, rfl, trivial⟩
      · have h := h.2 hc
        refine bi_Tr 3 (s' := (99, [(3, .int (y3 + (1 : Int32))), (0, .ref 77), (1, .int y1), (2, .int y2), (4, .int y4), (5, .int y5), (6, .int y6), (7, .int y7)], [.int y7, .int y6, .int y5], st_mm s3)) rfl ?_
        refine bi_TcI (as := [.int y5, .int y6, .int y7]) rfl rfl ?_
        refine cI.mono h (fun r4 s4 h => ?_) (fun _ _ h => h.elim)
        refine bi_Tr 3 (s' := (60, [(7, .int (y7 + (1 : Int32))), (4, .int r4), (3, .int (y3 + (1 : Int32))), (0, .ref 77), (1, .int y1), (2, .int y2), (5, .int y5), (6, .int y6)], [], st_mm s4)) rfl ?_
        exact bi_Tww h rfl rfl ⟨rfl, rfl, rfl, rfl, rfl, rfl, rfl, rfl, trivial⟩
    · have h := h.2 hc
      refine bi_Tr 3 (s' := (60, [(7, .int (y7 + (1 : Int32))), (0, .ref 77), (1, .int y1), (2, .int y2), (3, .int y3), (4, .int y4), (5, .int y5), (6, .int y6)], [], st_mm s3)) rfl ?_
      exact bi_Tww h rfl rfl ⟨rfl, rfl, rfl, rfl, rfl, rfl, rfl, rfl, trivial⟩
/-- PolicyRowsModel.escapes(II)I -/
theorem en_X12_escapes {X : bi_X} {d : Nat} {K : Int32 → bi_St → Prop} {E : Nat → bi_St → Prop} {s : bi_St} {x0 : Int32} {x1 : Int32}  (h : cI X d 222 [.ref 77, .int x0] (st_p s 77 0 (0 : Int32)) (fun (r1 : Int32) (s1 : bi_St) => ((r1 = 0) → K (0 : Int32) s1) ∧ (¬ (r1 = 0) → cI X d 224 [.ref 77, .int x1, .int (1 : Int32)] s1 (fun (r2 : Int32) (s2 : bi_St) => ((¬ r2 = 0) → at_X12_escapes_32 X (d + 1) K E s2 (x0) (x1) ((0 : Int32)) ((-1 : Int32)) ((0 : Int32))) ∧ (¬ (¬ r2 = 0) → K (0 : Int32) s2)) (fun _ _ => False))) (fun _ _ => False)) : cI X (d + 1) 255 [.ref 77, .int x0, .int x1] s K E := by
  show bi_T _ _ _ _ _
  refine bi_Tr 5 (s' := (7, [(0, .ref 77), (1, .int x0), (2, .int x1)], [.int x0, .ref 77], st_mm (st_p s 77 0 (0 : Int32)))) rfl ?_
  refine bi_TcI (as := [.ref 77, .int x0]) rfl rfl ?_
  refine cI.mono h (fun r1 s1 h => ?_) (fun _ _ h => h.elim)
  refine bi_Tr 1 (s' := ((if r1 = 0 then 22 else 13), [(0, .ref 77), (1, .int x0), (2, .int x1)], [], st_mm s1)) rfl (bi_Tif (fun hc => ?_) (fun hc => ?_))
  · have h := h.1 hc
    refine bi_Tr 1 (s' := (23, [(0, .ref 77), (1, .int x0), (2, .int x1)], [.int (0 : Int32)], st_mm s1)) rfl ?_
    exact bi_Tv rfl rfl (Or.inl ⟨_, _, rfl, h⟩)
  · have h := h.2 hc
    refine bi_Tr 3 (s' := (16, [(0, .ref 77), (1, .int x0), (2, .int x1)], [.int (1 : Int32), .int x1, .ref 77], st_mm s1)) rfl ?_
    refine bi_TcI (as := [.ref 77, .int x1, .int (1 : Int32)]) rfl rfl ?_
    refine cI.mono h (fun r2 s2 h => ?_) (fun _ _ h => h.elim)
    refine bi_Tr 1 (s' := ((if ¬ r2 = 0 then 24 else 22), [(0, .ref 77), (1, .int x0), (2, .int x1)], [], st_mm s2)) rfl (bi_Tif (fun hc => ?_) (fun hc => ?_))
    · have h := h.1 hc
      refine bi_Tr 6 (s' := (32, [(5, .int (0 : Int32)), (4, .int (-1 : Int32)), (3, .int (0 : Int32)), (0, .ref 77), (1, .int x0), (2, .int x1)], [], st_mm s2)) rfl ?_
      exact bi_Tww h rfl rfl ⟨rfl, rfl, rfl, rfl, rfl, rfl, trivial⟩
    · have h := h.2 hc
      refine bi_Tr 1 (s' := (23, [(0, .ref 77), (1, .int x0), (2, .int x1)], [.int (0 : Int32)], st_mm s2)) rfl ?_
      exact bi_Tv rfl rfl (Or.inl ⟨_, _, rfl, h⟩)
def at_X12_see_21 (X : bi_X) (d : Nat) (K : Int32 → bi_St → Prop) (E : Nat → bi_St → Prop) (s : bi_St)  : Prop := bi_T X d 256 (21, [], [], st_mm s) (st_RI K E)
theorem go_X12_see_21 {X : bi_X} {d : Nat} {K : Int32 → bi_St → Prop} {E : Nat → bi_St → Prop}  {s : bi_St}   (h : K (0 : Int32) s) : at_X12_see_21 X (d + 1) K E s  := by
  show bi_T _ _ _ _ _
  refine bi_Tr 1 (s' := (22, [], [.int (0 : Int32)], st_mm s)) rfl ?_
  exact bi_Tv rfl rfl (Or.inl ⟨_, _, rfl, h⟩)
/-- PolicyRowsModel.see(IIZ)I -/
theorem en_X12_see {X : bi_X} {d : Nat} {K : Int32 → bi_St → Prop} {E : Nat → bi_St → Prop} {s : bi_St} {x0 : Int32} {x1 : Int32} {x2 : Int32}  (h : cI X d 222 [.ref 77, .int x0] (st_p s 77 0 (0 : Int32)) (fun (r1 : Int32) (s1 : bi_St) => ((r1 = 0) → at_X12_see_21 X (d + 1) K E s1) ∧ (¬ (r1 = 0) → cI X d 223 [.ref 77, .int x1] s1 (fun (r2 : Int32) (s2 : bi_St) => ((¬ r2 = 0) → ((¬ (st_g s2 77 62) = (8 : Int32)) → bi_in ((3 : Int32) * (st_g s2 77 62)) 24 = true ∧ (bi_in (((3 : Int32) * (st_g (st_p s2 106 (((3 : Int32) * (st_g s2 77 62))).toNatClampNeg x0) 77 62)) + (1 : Int32)) 24 = true ∧ (((x2 = 0) → bi_in (((3 : Int32) * (st_g (st_p (st_p s2 106 (((3 : Int32) * (st_g s2 77 62))).toNatClampNeg x0) 106 ((((3 : Int32) * (st_g (st_p s2 106 (((3 : Int32) * (st_g s2 77 62))).toNatClampNeg x0) 77 62)) + (1 : Int32))).toNatClampNeg x1) 77 62)) + (2 : Int32)) 24 = true ∧ (K (st_g (st_p (st_p (st_p (st_p s2 106 (((3 : Int32) * (st_g s2 77 62))).toNatClampNeg x0) 106 ((((3 : Int32) * (st_g (st_p s2 106 (((3 : Int32) * (st_g s2 77 62))).toNatClampNeg x0) 77 62)) + (1 : Int32))).toNatClampNeg x1) 106 ((((3 : Int32) * (st_g (st_p (st_p s2 106 (((3 : Int32) * (st_g s2 77 62))).toNatClampNeg x0) 106 ((((3 : Int32) * (st_g (st_p s2 106 (((3 : Int32) * (st_g s2 77 62))).toNatClampNeg x0) 77 62)) + (1 : Int32))).toNatClampNeg x1) 77 62)) + (2 : Int32))).toNatClampNeg (0 : Int32)) 77 62 ((st_g (st_p (st_p (st_p s2 106 (((3 : Int32) * (st_g s2 77 62))).toNatClampNeg x0) 106 ((((3 : Int32) * (st_g (st_p s2 106 (((3 : Int32) * (st_g s2 77 62))).toNatClampNeg x0) 77 62)) + (1 : Int32))).toNatClampNeg x1) 106 ((((3 : Int32) * (st_g (st_p (st_p s2 106 (((3 : Int32) * (st_g s2 77 62))).toNatClampNeg x0) 106 ((((3 : Int32) * (st_g (st_p s2 106 (((3 : Int32) * (st_g s2 77 62))).toNatClampNeg x0) 77 62)) + (1 : Int32))).toNatClampNeg x1) 77 62)) + (2 : Int32))).toNatClampNeg (0 : Int32)) 77 62) + (1 : Int32))) 77 62) (st_p (st_p (st_p (st_p s2 106 (((3 : Int32) * (st_g s2 77 62))).toNatClampNeg x0) 106 ((((3 : Int32) * (st_g (st_p s2 106 (((3 : Int32) * (st_g s2 77 62))).toNatClampNeg x0) 77 62)) + (1 : Int32))).toNatClampNeg x1) 106 ((((3 : Int32) * (st_g (st_p (st_p s2 106 (((3 : Int32) * (st_g s2 77 62))).toNatClampNeg x0) 106 ((((3 : Int32) * (st_g (st_p s2 106 (((3 : Int32) * (st_g s2 77 62))).toNatClampNeg x0) 77 62)) + (1 : Int32))).toNatClampNeg x1) 77 62)) + (2 : Int32))).toNatClampNeg (0 : Int32)) 77 62 ((st_g (st_p (st_p (st_p s2 106 (((3 : Int32) * (st_g s2 77 62))).toNatClampNeg x0) 106 ((((3 : Int32) * (st_g (st_p s2 106 (((3 : Int32) * (st_g s2 77 62))).toNatClampNeg x0) 77 62)) + (1 : Int32))).toNatClampNeg x1) 106 ((((3 : Int32) * (st_g (st_p (st_p s2 106 (((3 : Int32) * (st_g s2 77 62))).toNatClampNeg x0) 106 ((((3 : Int32) * (st_g (st_p s2 106 (((3 : Int32) * (st_g s2 77 62))).toNatClampNeg x0) 77 62)) + (1 : Int32))).toNatClampNeg x1) 77 62)) + (2 : Int32))).toNatClampNeg (0 : Int32)) 77 62) + (1 : Int32))))) ∧ (¬ (x2 = 0) → bi_in (((3 : Int32) * (st_g (st_p (st_p s2 106 (((3 : Int32) * (st_g s2 77 62))).toNatClampNeg x0) 106 ((((3 : Int32) * (st_g (st_p s2 106 (((3 : Int32) * (st_g s2 77 62))).toNatClampNeg x0) 77 62)) + (1 : Int32))).toNatClampNeg x1) 77 62)) + (2 : Int32)) 24 = true ∧ (K (st_g (st_p (st_p (st_p (st_p s2 106 (((3 : Int32) * (st_g s2 77 62))).toNatClampNeg x0) 106 ((((3 : Int32) * (st_g (st_p s2 106 (((3 : Int32) * (st_g s2 77 62))).toNatClampNeg x0) 77 62)) + (1 : Int32))).toNatClampNeg x1) 106 ((((3 : Int32) * (st_g (st_p (st_p s2 106 (((3 : Int32) * (st_g s2 77 62))).toNatClampNeg x0) 106 ((((3 : Int32) * (st_g (st_p s2 106 (((3 : Int32) * (st_g s2 77 62))).toNatClampNeg x0) 77 62)) + (1 : Int32))).toNatClampNeg x1) 77 62)) + (2 : Int32))).toNatClampNeg (1 : Int32)) 77 62 ((st_g (st_p (st_p (st_p s2 106 (((3 : Int32) * (st_g s2 77 62))).toNatClampNeg x0) 106 ((((3 : Int32) * (st_g (st_p s2 106 (((3 : Int32) * (st_g s2 77 62))).toNatClampNeg x0) 77 62)) + (1 : Int32))).toNatClampNeg x1) 106 ((((3 : Int32) * (st_g (st_p (st_p s2 106 (((3 : Int32) * (st_g s2 77 62))).toNatClampNeg x0) 106 ((((3 : Int32) * (st_g (st_p s2 106 (((3 : Int32) * (st_g s2 77 62))).toNatClampNeg x0) 77 62)) + (1 : Int32))).toNatClampNeg x1) 77 62)) + (2 : Int32))).toNatClampNeg (1 : Int32)) 77 62) + (1 : Int32))) 77 62) (st_p (st_p (st_p (st_p s2 106 (((3 : Int32) * (st_g s2 77 62))).toNatClampNeg x0) 106 ((((3 : Int32) * (st_g (st_p s2 106 (((3 : Int32) * (st_g s2 77 62))).toNatClampNeg x0) 77 62)) + (1 : Int32))).toNatClampNeg x1) 106 ((((3 : Int32) * (st_g (st_p (st_p s2 106 (((3 : Int32) * (st_g s2 77 62))).toNatClampNeg x0) 106 ((((3 : Int32) * (st_g (st_p s2 106 (((3 : Int32) * (st_g s2 77 62))).toNatClampNeg x0) 77 62)) + (1 : Int32))).toNatClampNeg x1) 77 62)) + (2 : Int32))).toNatClampNeg (1 : Int32)) 77 62 ((st_g (st_p (st_p (st_p s2 106 (((3 : Int32) * (st_g s2 77 62))).toNatClampNeg x0) 106 ((((3 : Int32) * (st_g (st_p s2 106 (((3 : Int32) * (st_g s2 77 62))).toNatClampNeg x0) 77 62)) + (1 : Int32))).toNatClampNeg x1) 106 ((((3 : Int32) * (st_g (st_p (st_p s2 106 (((3 : Int32) * (st_g s2 77 62))).toNatClampNeg x0) 106 ((((3 : Int32) * (st_g (st_p s2 106 (((3 : Int32) * (st_g s2 77 62))).toNatClampNeg x0) 77 62)) + (1 : Int32))).toNatClampNeg x1) 77 62)) + (2 : Int32))).toNatClampNeg (1 : Int32)) 77 62) + (1 : Int32)))))))) ∧ (¬ (¬ (st_g s2 77 62) = (8 : Int32)) → cI X d 205 [.ref 77, .int (2 : Int32)] s2 (fun (r3 : Int32) (s3 : bi_St) => K r3 s3) (fun _ _ => False))) ∧ (¬ (¬ r2 = 0) → at_X12_see_21 X (d + 1) K E s2)) (fun _ _ => False))) (fun _ _ => False)) : cI X (d + 1) 256 [.ref 77, .int x0, .int x1, .int x2] s K E := by
  show bi_T _ _ _ _ _
  refine bi_Tr 5 (s' := (7, [(0, .ref 77), (1, .int x0), (2, .int x1), (3, .int x2)], [.int x0, .ref 77], st_mm (st_p s 77 0 (0 : Int32)))) rfl ?_
  refine bi_TcI (as := [.ref 77, .int x0]) rfl rfl ?_
  refine cI.mono h (fun r1 s1 h => ?_) (fun _ _ h => h.elim)
  refine bi_Tr 1 (s' := ((if r1 = 0 then 21 else 13), [(0, .ref 77), (1, .int x0), (2, .int x1), (3, .int x2)], [], st_mm s1)) rfl (bi_Tif (fun hc => ?_) (fun hc => ?_))
  · have h := h.1 hc
    exact bi_Tww h rfl rfl trivial
  · have h := h.2 hc
    refine bi_Tr 2 (s' := (15, [(0, .ref 77), (1, .int x0), (2, .int x1), (3, .int x2)], [.int x1, .ref 77], st_mm s1)) rfl ?_
    refine bi_TcI (as := [.ref 77, .int x1]) rfl rfl ?_
    refine cI.mono h (fun r2 s2 h => ?_) (fun _ _ h => h.elim)
    refine bi_Tr 1 (s' := ((if ¬ r2 = 0 then 23 else 21), [(0, .ref 77), (1, .int x0), (2, .int x1), (3, .int x2)], [], st_mm s2)) rfl (bi_Tif (fun hc => ?_) (fun hc => ?_))
    · have h := h.1 hc
      refine bi_Tr 4 (s' := ((if ¬ (st_g s2 77 62) = (8 : Int32) then 38 else 32), [(0, .ref 77), (1, .int x0), (2, .int x1), (3, .int x2)], [], st_mm s2)) rfl (bi_Tif (fun hc => ?_) (fun hc => ?_))
      · have h := h.1 hc
        refine bi_Tr 7 (s' := (49, [(0, .ref 77), (1, .int x0), (2, .int x1), (3, .int x2)], [.int x0, .int ((3 : Int32) * (st_g s2 77 62)), .ref 106], st_mm s2)) rfl ?_
        obtain ⟨hi, h⟩ := h
        refine bi_Tias rfl rfl hi ?_
        refine bi_Tr 9 (s' := (63, [(0, .ref 77), (1, .int x0), (2, .int x1), (3, .int x2)], [.int x1, .int (((3 : Int32) * (st_g (st_p s2 106 (((3 : Int32) * (st_g s2 77 62))).toNatClampNeg x0) 77 62)) + (1 : Int32)), .ref 106], st_mm (st_p s2 106 (((3 : Int32) * (st_g s2 77 62))).toNatClampNeg x0))) rfl ?_
        obtain ⟨hi, h⟩ := h
        refine bi_Tias rfl rfl hi ?_
        refine bi_Tr 10 (s' := ((if x2 = 0 then 84 else 80), [(0, .ref 77), (1, .int x0), (2, .int x1), (3, .int x2)], [.int (((3 : Int32) * (st_g (st_p (st_p s2 106 (((3 : Int32) * (st_g s2 77 62))).toNatClampNeg x0) 106 ((((3 : Int32) * (st_g (st_p s2 106 (((3 : Int32) * (st_g s2 77 62))).toNatClampNeg x0) 77 62)) + (1 : Int32))).toNatClampNeg x1) 77 62)) + (2 : Int32)), .ref 106], st_mm (st_p (st_p s2 106 (((3 : Int32) * (st_g s2 77 62))).toNatClampNeg x0) 106 ((((3 : Int32) * (st_g (st_p s2 106 (((3 : Int32) * (st_g s2 77 62))).toNatClampNeg x0) 77 62)) + (1 : Int32))).toNatClampNeg x1))) rfl (bi_Tif (fun hc => ?_) (fun hc => ?_))
        · have h := h.1 hc
          refine bi_Tr 1 (s' := (85, [(0, .ref 77), (1, .int x0), (2, .int x1), (3, .int x2)], [.int (0 : Int32), .int (((3 : Int32) * (st_g (st_p (st_p s2 106 (((3 : Int32) * (st_g s2 77 62))).toNatClampNeg x0) 106 ((((3 : Int32) * (st_g (st_p s2 106 (((3 : Int32) * (st_g s2 77 62))).toNatClampNeg x0) 77 62)) + (1 : Int32))).toNatClampNeg x1) 77 62)) + (2 : Int32)), .ref 106], st_mm (st_p (st_p s2 106 (((3 : Int32) * (st_g s2 77 62))).toNatClampNeg x0) 106 ((((3 : Int32) * (st_g (st_p s2 106 (((3 : Int32) * (st_g s2 77 62))).toNatClampNeg x0) 77 62)) + (1 : Int32))).toNatClampNeg x1))) rfl ?_
          obtain ⟨hi, h⟩ := h
          refine bi_Tias rfl rfl hi ?_
          refine bi_Tr 8 (s' := (100, [(0, .ref 77), (1, .int x0), (2, .int x1), (3, .int x2)], [.int (st_g (st_p (st_p (st_p (st_p s2 106 (((3 : Int32) * (st_g s2 77 62))).toNatClampNeg x0) 106 ((((3 : Int32) * (st_g (st_p s2 106 (((3 : Int32) * (st_g s2 77 62))).toNatClampNeg x0) 77 62)) + (1 : Int32))).toNatClampNeg x1) 106 ((((3 : Int32) * (st_g (st_p (st_p s2 106 (((3 : Int32) * (st_g s2 77 62))).toNatClampNeg x0) 106 ((((3 : Int32) * (st_g (st_p s2 106 (((3 : Int32) * (st_g s2 77 62))).toNatClampNeg x0) 77 62)) + (1 : Int32))).toNatClampNeg x1) 77 62)) + (2 : Int32))).toNatClampNeg (0 : Int32)) 77 62 ((st_g (st_p (st_p (st_p s2 106 (((3 : Int32) * (st_g s2 77 62))).toNatClampNeg x0) 106 ((((3 : Int32) * (st_g (st_p s2 106 (((3 : Int32) * (st_g s2 77 62))).toNatClampNeg x0) 77 62)) + (1 : Int32))).toNatClampNeg x1) 106 ((((3 : Int32) * (st_g (st_p (st_p s2 106 (((3 : Int32) * (st_g s2 77 62))).toNatClampNeg x0) 106 ((((3 : Int32) * (st_g (st_p s2 106 (((3 : Int32) * (st_g s2 77 62))).toNatClampNeg x0) 77 62)) + (1 : Int32))).toNatClampNeg x1) 77 62)) + (2 : Int32))).toNatClampNeg (0 : Int32)) 77 62) + (1 : Int32))) 77 62)], st_mm (st_p (st_p (st_p (st_p s2 106 (((3 : Int32) * (st_g s2 77 62))).toNatClampNeg x0) 106 ((((3 : Int32) * (st_g (st_p s2 106 (((3 : Int32) * (st_g s2 77 62))).toNatClampNeg x0) 77 62)) + (1 : Int32))).toNatClampNeg x1) 106 ((((3 : Int32) * (st_g (st_p (st_p s2 106 (((3 : Int32) * (st_g s2 77 62))).toNatClampNeg x0) 106 ((((3 : Int32) * (st_g (st_p s2 106 (((3 : Int32) * (st_g s2 77 62))).toNatClampNeg x0) 77 62)) + (1 : Int32))).toNatClampNeg x1) 77 62)) + (2 : Int32))).toNatClampNeg (0 : Int32)) 77 62 ((st_g (st_p (st_p (st_p s2 106 (((3 : Int32) * (st_g s2 77 62))).toNatClampNeg x0) 106 ((((3 : Int32) * (st_g (st_p s2 106 (((3 : Int32) * (st_g s2 77 62))).toNatClampNeg x0) 77 62)) + (1 : Int32))).toNatClampNeg x1) 106 ((((3 : Int32) * (st_g (st_p (st_p s2 106 (((3 : Int32) * (st_g s2 77 62))).toNatClampNeg x0) 106 ((((3 : Int32) * (st_g (st_p s2 106 (((3 : Int32) * (st_g s2 77 62))).toNatClampNeg x0) 77 62)) + (1 : Int32))).toNatClampNeg x1) 77 62)) + (2 : Int32))).toNatClampNeg (0 : Int32)) 77 62) + (1 : Int32))))) rfl ?_
          exact bi_Tv rfl rfl (Or.inl ⟨_, _, rfl, h⟩)
        · have h := h.2 hc
          refine bi_Tr 2 (s' := (85, [(0, .ref 77), (1, .int x0), (2, .int x1), (3, .int x2)], [.int (1 : Int32), .int (((3 : Int32) * (st_g (st_p (st_p s2 106 (((3 : Int32) * (st_g s2 77 62))).toNatClampNeg x0) 106 ((((3 : Int32) * (st_g (st_p s2 106 (((3 : Int32) * (st_g s2 77 62))).toNatClampNeg x0) 77 62)) + (1 : Int32))).toNatClampNeg x1) 77 62)) + (2 : Int32)), .ref 106], st_mm (st_p (st_p s2 106 (((3 : Int32) * (st_g s2 77 62))).toNatClampNeg x0) 106 ((((3 : Int32) * (st_g (st_p s2 106 (((3 : Int32) * (st_g s2 77 62))).toNatClampNeg x0) 77 62)) + (1 : Int32))).toNatClampNeg x1))) rfl ?_
          obtain ⟨hi, h⟩ := h
          refine bi_Tias rfl rfl hi ?_
          refine bi_Tr 8 (s' := (100, [(0, .ref 77), (1, .int x0), (2, .int x1), (3, .int x2)], [.int (st_g (st_p (st_p (st_p (st_p s2 106 (((3 : Int32) * (st_g s2 77 62))).toNatClampNeg x0) 106 ((((3 : Int32) * (st_g (st_p s2 106 (((3 : Int32) * (st_g s2 77 62))).toNatClampNeg x0) 77 62)) + (1 : Int32))).toNatClampNeg x1) 106 ((((3 : Int32) * (st_g (st_p (st_p s2 106 (((3 : Int32) * (st_g s2 77 62))).toNatClampNeg x0) 106 ((((3 : Int32) * (st_g (st_p s2 106 (((3 : Int32) * (st_g s2 77 62))).toNatClampNeg x0) 77 62)) + (1 : Int32))).toNatClampNeg x1) 77 62)) + (2 : Int32))).toNatClampNeg (1 : Int32)) 77 62 ((st_g (st_p (st_p (st_p s2 106 (((3 : Int32) * (st_g s2 77 62))).toNatClampNeg x0) 106 ((((3 : Int32) * (st_g (st_p s2 106 (((3 : Int32) * (st_g s2 77 62))).toNatClampNeg x0) 77 62)) + (1 : Int32))).toNatClampNeg x1) 106 ((((3 : Int32) * (st_g (st_p (st_p s2 106 (((3 : Int32) * (st_g s2 77 62))).toNatClampNeg x0) 106 ((((3 : Int32) * (st_g (st_p s2 106 (((3 : Int32) * (st_g s2 77 62))).toNatClampNeg x0) 77 62)) + (1 : Int32))).toNatClampNeg x1) 77 62)) + (2 : Int32))).toNatClampNeg (1 : Int32)) 77 62) + (1 : Int32))) 77 62)], st_mm (st_p (st_p (st_p (st_p s2 106 (((3 : Int32) * (st_g s2 77 62))).toNatClampNeg x0) 106 ((((3 : Int32) * (st_g (st_p s2 106 (((3 : Int32) * (st_g s2 77 62))).toNatClampNeg x0) 77 62)) + (1 : Int32))).toNatClampNeg x1) 106 ((((3 : Int32) * (st_g (st_p (st_p s2 106 (((3 : Int32) * (st_g s2 77 62))).toNatClampNeg x0) 106 ((((3 : Int32) * (st_g (st_p s2 106 (((3 : Int32) * (st_g s2 77 62))).toNatClampNeg x0) 77 62)) + (1 : Int32))).toNatClampNeg x1) 77 62)) + (2 : Int32))).toNatClampNeg (1 : Int32)) 77 62 ((st_g (st_p (st_p (st_p s2 106 (((3 : Int32) * (st_g s2 77 62))).toNatClampNeg x0) 106 ((((3 : Int32) * (st_g (st_p s2 106 (((3 : Int32) * (st_g s2 77 62))).toNatClampNeg x0) 77 62)) + (1 : Int32))).toNatClampNeg x1) 106 ((((3 : Int32) * (st_g (st_p (st_p s2 106 (((3 : Int32) * (st_g s2 77 62))).toNatClampNeg x0) 106 ((((3 : Int32) * (st_g (st_p s2 106 (((3 : Int32) * (st_g s2 77 62))).toNatClampNeg x0) 77 62)) + (1 : Int32))).toNatClampNeg x1) 77 62)) + (2 : Int32))).toNatClampNeg (1 : Int32)) 77 62) + (1 : Int32))))) rfl ?_
          exact bi_Tv rfl rfl (Or.inl ⟨_, _, rfl, h⟩)
      · have h := h.2 hc
        refine bi_Tr 2 (s' := (34, [(0, .ref 77), (1, .int x0), (2, .int x1), (3, .int x2)], [.int (2 : Int32), .ref 77], st_mm s2)) rfl ?_
        refine bi_TcI (as := [.ref 77, .int (2 : Int32)]) rfl rfl ?_
        refine cI.mono h (fun r3 s3 h => ?_) (fun _ _ h => h.elim)
        exact bi_Tv rfl rfl (Or.inl ⟨_, _, rfl, h⟩)
    · have h := h.2 hc
      exact bi_Tww h rfl rfl trivial
/-- PolicyRowsModel.forget()V -/
theorem en_X12_forget {X : bi_X} {d : Nat} {K : bi_St → Prop} {E : Nat → bi_St → Prop} {s : bi_St}   (h : K (st_p (st_p s 77 0 (0 : Int32)) 77 62 (0 : Int32))) : cV X d 257 [.ref 77] s K E := by
  show bi_T _ _ _ _ _
  refine bi_Tr 6 (s' := (10, [(0, .ref 77)], [], st_mm (st_p (st_p s 77 0 (0 : Int32)) 77 62 (0 : Int32)))) rfl ?_
  exact bi_Tv rfl rfl (Or.inl ⟨_, rfl, h⟩)
def at_X12_isSeen_2 (X : bi_X) (d : Nat) (K : Int32 → bi_St → Prop) (E : Nat → bi_St → Prop) (s : bi_St) (y1 : Int32) (y2 : Int32) : Prop := bi_T X d 258 (2, [(0, .ref 77), (1, .int y1), (2, .int y2)], [], st_mm s) (st_RI K E)
theorem go_X12_isSeen_2 {X : bi_X} {d : Nat} {K : Int32 → bi_St → Prop} {E : Nat → bi_St → Prop}  {s : bi_St} {y1 : Int32} {y2 : Int32}  (h : (((st_g s 77 62) ≤ y2) → K (1 : Int32) s) ∧ (¬ ((st_g s 77 62) ≤ y2) → bi_in (((3 : Int32) * y2) + (1 : Int32)) 24 = true ∧ (bi_in (y1 + (7 : Int32)) 144 = true ∧ ((((st_g s 90 ((y1 + (7 : Int32))).toNatClampNeg) ≤ (st_g s 106 ((((3 : Int32) * y2) + (1 : Int32))).toNatClampNeg)) → K (0 : Int32) s) ∧ (¬ ((st_g s 90 ((y1 + (7 : Int32))).toNatClampNeg) ≤ (st_g s 106 ((((3 : Int32) * y2) + (1 : Int32))).toNatClampNeg)) → bi_in ((3 : Int32) * y2) 24 = true ∧ (cI X d 216 [.ref 77, .int y1, .int (st_g s 106 (((3 : Int32) * y2)).toNatClampNeg), .int (st_g s 106 ((((3 : Int32) * y2) + (1 : Int32))).toNatClampNeg)] s (fun (r1 : Int32) (s1 : bi_St) => bi_in (((3 : Int32) * y2) + (2 : Int32)) 24 = true ∧ (((¬ (st_g s1 106 ((((3 : Int32) * y2) + (2 : Int32))).toNatClampNeg) = (1 : Int32)) → ((r1 = (0 : Int32)) → at_X12_isSeen_2 X (d + 1) K E s1 (y1) ((y2 + (1 : Int32)))) ∧ (¬ (r1 = (0 : Int32)) → K (0 : Int32) s1)) ∧ (¬ (¬ (st_g s1 106 ((((3 : Int32) * y2) + (2 : Int32))).toNatClampNeg) = (1 : Int32)) → ((r1 = (1 : Int32)) → at_X12_isSeen_2 X (d + 1) K E s1 (y1) ((y2 + (1 : Int32)))) ∧ (¬ (r1 = (1 : Int32)) → K (0 : Int32) s1)))) (fun _ _ => False))))))) : at_X12_isSeen_2 X (d + 1) K E s y1 y2 := by
  show bi_T _ _ _ _ _
  refine bi_Tr 4 (s' := ((if (st_g s 77 62) ≤ y2 then 78 else 10), [(0, .ref 77), (1, .int y1), (2, .int y2)], [], st_mm s)) rfl (bi_Tif (fun hc => ?_) (fun hc => ?_))
  · have h := h.1 hc
    refine bi_Tr 1 (s' := (79, [(0, .ref 77), (1, .int y1), (2, .int y2)], [.int (1 : Int32)], st_mm s)) rfl ?_
    exact bi_Tv rfl rfl (Or.inl ⟨_, _, rfl, h⟩)
  · have h := h.2 hc
    refine bi_Tr 7 (s' := (19, [(0, .ref 77), (1, .int y1), (2, .int y2)], [.int (((3 : Int32) * y2) + (1 : Int32)), .ref 106], st_mm s)) rfl ?_
    obtain ⟨hi, h⟩ := h
    refine bi_Tial rfl rfl rfl hi ?_
    refine bi_Tr 7 (s' := (30, [(3, .int (st_g s 106 ((((3 : Int32) * y2) + (1 : Int32))).toNatClampNeg)), (0, .ref 77), (1, .int y1), (2, .int y2)], [.int (y1 + (7 : Int32)), .ref 90, .int (st_g s 106 ((((3 : Int32) * y2) + (1 : Int32))).toNatClampNeg)], st_mm s)) rfl ?_
    obtain ⟨hi, h⟩ := h
    refine bi_Tial rfl rfl rfl hi ?_
    refine bi_Tr 1 (s' := ((if (st_g s 90 ((y1 + (7 : Int32))).toNatClampNeg) ≤ (st_g s 106 ((((3 : Int32) * y2) + (1 : Int32))).toNatClampNeg) then 70 else 34), [(3, .int (st_g s 106 ((((3 : Int32) * y2) + (1 : Int32))).toNatClampNeg)), (0, .ref 77), (1, .int y1), (2, .int y2)], [], st_mm s)) rfl (bi_Tif (fun hc => ?_) (fun hc => ?_))
    · have h := h.1 hc
      refine bi_Tr 1 (s' := (71, [(3, .int (st_g s 106 ((((3 : Int32) * y2) + (1 : Int32))).toNatClampNeg)), (0, .ref 77), (1, .int y1), (2, .int y2)], [.int (0 : Int32)], st_mm s)) rfl ?_
      exact bi_Tv rfl rfl (Or.inl ⟨_, _, rfl, h⟩)
    · have h := h.2 hc
      refine bi_Tr 7 (s' := (43, [(3, .int (st_g s 106 ((((3 : Int32) * y2) + (1 : Int32))).toNatClampNeg)), (0, .ref 77), (1, .int y1), (2, .int y2)], [.int ((3 : Int32) * y2), .ref 106, .int y1, .ref 77], st_mm s)) rfl ?_
      obtain ⟨hi, h⟩ := h
      refine bi_Tial rfl rfl rfl hi ?_
      refine bi_Tr 1 (s' := (45, [(3, .int (st_g s 106 ((((3 : Int32) * y2) + (1 : Int32))).toNatClampNeg)), (0, .ref 77), (1, .int y1), (2, .int y2)], [.int (st_g s 106 ((((3 : Int32) * y2) + (1 : Int32))).toNatClampNeg), .int (st_g s 106 (((3 : Int32) * y2)).toNatClampNeg), .int y1, .ref 77], st_mm s)) rfl ?_
      refine bi_TcI (as := [.ref 77, .int y1, .int (st_g s 106 (((3 : Int32) * y2)).toNatClampNeg), .int (st_g s 106 ((((3 : Int32) * y2) + (1 : Int32))).toNatClampNeg)]) rfl rfl ?_
      refine cI.mono h (fun r1 s1 h => ?_) (fun _ _ h => h.elim)
      refine bi_Tr 7 (s' := (57, [(3, .int (st_g s 106 ((((3 : Int32) * y2) + (1 : Int32))).toNatClampNeg)), (0, .ref 77), (1, .int y1), (2, .int y2)], [.int (((3 : Int32) * y2) + (2 : Int32)), .ref 106, .int r1], st_mm s1)) rfl ?_
      obtain ⟨hi, h⟩ := h
      refine bi_Tial rfl rfl rfl hi ?_
      refine bi_Tr 2 (s' := ((if ¬ (st_g s1 106 ((((3 : Int32) * y2) + (2 : Int32))).toNatClampNeg) = (1 : Int32) then 66 else 62), [(3, .int (st_g s 106 ((((3 : Int32) * y2) + (1 : Int32))).toNatClampNeg)), (0, .ref 77), (1, .int y1), (2, .int y2)], [.int r1], st_mm s1)) rfl (bi_Tif (fun hc => ?_) (fun hc => ?_))
      · have h := h.1 hc
        refine bi_Tr 2 (s' := ((if r1 = (0 : Int32) then 72 else 70), [(3, .int (st_g s 106 ((((3 : Int32) * y2) + (1 : Int32))).toNatClampNeg)), (0, .ref 77), (1, .int y1), (2, .int y2)], [], st_mm s1)) rfl (bi_Tif (fun hc => ?_) (fun hc => ?_))
        · have h := h.1 hc
          refine bi_Tr 2 (s' := (2, [(2, .int (y2 + (1 : Int32))), (3, .int (st_g s 106 ((((3 : Int32) * y2) + (1 : Int32))).toNatClampNeg)), (0, .ref 77), (1, .int y1)], [], st_mm s1)) rfl ?_
          exact bi_Tww h rfl rfl ⟨rfl, rfl, rfl, trivial⟩
        · have h := h.2 hc
          refine bi_Tr 1 (s' := (71, [(3, .int (st_g s 106 ((((3 : Int32) * y2) + (1 : Int32))).toNatClampNeg)), (0, .ref 77), (1, .int y1), (2, .int y2)], [.int (0 : Int32)], st_mm s1)) rfl ?_
          exact bi_Tv rfl rfl (Or.inl ⟨_, _, rfl, h⟩)
      · have h := h.2 hc
        refine bi_Tr 3 (s' := ((if r1 = (1 : Int32) then 72 else 70), [(3, .int (st_g s 106 ((((3 : Int32) * y2) + (1 : Int32))).toNatClampNeg)), (0, .ref 77), (1, .int y1), (2, .int y2)], [], st_mm s1)) rfl (bi_Tif (fun hc => ?_) (fun hc => ?_))
        · have h := h.1 hc
          refine bi_Tr 2 (s' := (2, [(2, .int (y2 + (1 : Int32))), (3, .int (st_g s 106 ((((3 : Int32) * y2) + (1 : Int32))).toNatClampNeg)), (0, .ref 77), (1, .int y1)], [], st_mm s1)) rfl ?_
          exact bi_Tww h rfl rfl ⟨rfl, rfl, rfl, trivial⟩
        · have h := h.2 hc
          refine bi_Tr 1 (s' := (71, [(3, .int (st_g s 106 ((((3 : Int32) * y2) + (1 : Int32))).toNatClampNeg)), (0, .ref 77), (1, .int y1), (2, .int y2)], [.int (0 : Int32)], st_mm s1)) rfl ?_
          exact bi_Tv rfl rfl (Or.inl ⟨_, _, rfl, h⟩)
/-- PolicyRowsModel.isSeen(I)Z -/
theorem en_X12_isSeen {X : bi_X} {d : Nat} {K : Int32 → bi_St → Prop} {E : Nat → bi_St → Prop} {s : bi_St} {x0 : Int32}  (h : at_X12_isSeen_2 X (d + 1) K E s (x0) ((0 : Int32))) : cI X (d + 1) 258 [.ref 77, .int x0] s K E := by
  show bi_T _ _ _ _ _
  refine bi_Tr 2 (s' := (2, [(2, .int (0 : Int32)), (0, .ref 77), (1, .int x0)], [], st_mm s)) rfl ?_
  exact bi_Tww h rfl rfl ⟨rfl, rfl, rfl, trivial⟩
/-- PolicyRowsModel.isGuess(III)Z -/
theorem en_X12_isGuess {X : bi_X} {d : Nat} {K : Int32 → bi_St → Prop} {E : Nat → bi_St → Prop} {s : bi_St} {x0 : Int32} {x1 : Int32} {x2 : Int32}  (h : bi_in (((8 : Int32) + ((4 : Int32) * x0)) + x1) 144 = true ∧ (((¬ (st_g s 90 ((((8 : Int32) + ((4 : Int32) * x0)) + x1)).toNatClampNeg) = x2) → cV X d 207 [.ref 77] s (fun (s1 : bi_St) => bi_in (((80 : Int32) + ((4 : Int32) * x0)) + x1) 144 = true ∧ (cI X d 258 [.ref 77, .int (72 : Int32)] (st_p s1 90 ((((80 : Int32) + ((4 : Int32) * x0)) + x1)).toNatClampNeg x2) (fun (r2 : Int32) (s2 : bi_St) => bi_bool r2 = true ∧ (K r2 s2)) (fun _ _ => False))) (fun _ _ => False)) ∧ (¬ (¬ (st_g s 90 ((((8 : Int32) + ((4 : Int32) * x0)) + x1)).toNatClampNeg) = x2) → K (0 : Int32) s))) : cI X (d + 1) 259 [.ref 77, .int x0, .int x1, .int x2] s K E := by
  show bi_T _ _ _ _ _
  refine bi_Tr 9 (s' := (12, [(0, .ref 77), (1, .int x0), (2, .int x1), (3, .int x2)], [.int (((8 : Int32) + ((4 : Int32) * x0)) + x1), .ref 90], st_mm s)) rfl ?_
  obtain ⟨hi, h⟩ := h
  refine bi_Tial rfl rfl rfl hi ?_
  refine bi_Tr 2 (s' := ((if ¬ (st_g s 90 ((((8 : Int32) + ((4 : Int32) * x0)) + x1)).toNatClampNeg) = x2 then 19 else 17), [(0, .ref 77), (1, .int x0), (2, .int x1), (3, .int x2)], [], st_mm s)) rfl (bi_Tif (fun hc => ?_) (fun hc => ?_))
  · have h := h.1 hc
    refine bi_Tr 1 (s' := (20, [(0, .ref 77), (1, .int x0), (2, .int x1), (3, .int x2)], [.ref 77], st_mm s)) rfl ?_
    refine bi_TcV (as := [.ref 77]) rfl rfl ?_
    refine cV.mono h (fun s1 h => ?_) (fun _ _ h => h.elim)
    refine bi_Tr 10 (s' := (36, [(0, .ref 77), (1, .int x0), (2, .int x1), (3, .int x2)], [.int x2, .int (((80 : Int32) + ((4 : Int32) * x0)) + x1), .ref 90], st_mm s1)) rfl ?_
    obtain ⟨hi, h⟩ := h
    refine bi_Tias rfl rfl hi ?_
    refine bi_Tr 2 (s' := (40, [(0, .ref 77), (1, .int x0), (2, .int x1), (3, .int x2)], [.int (72 : Int32), .ref 77], st_mm (st_p s1 90 ((((80 : Int32) + ((4 : Int32) * x0)) + x1)).toNatClampNeg x2))) rfl ?_
    refine bi_TcI (as := [.ref 77, .int (72 : Int32)]) rfl rfl ?_
    refine cI.mono h (fun r2 s2 h => ?_) (fun _ _ h => h.elim)
    obtain ⟨hi, h⟩ := h
    exact bi_Tv rfl hi (Or.inl ⟨_, _, rfl, h⟩)
  · have h := h.2 hc
    refine bi_Tr 1 (s' := (18, [(0, .ref 77), (1, .int x0), (2, .int x1), (3, .int x2)], [.int (0 : Int32)], st_mm s)) rfl ?_
    exact bi_Tv rfl rfl (Or.inl ⟨_, _, rfl, h⟩)
def at_X12_meant_42 (X : bi_X) (d : Nat) (K : Int32 → bi_St → Prop) (E : Nat → bi_St → Prop) (s : bi_St) (y1 : Int32) (y2 : Int32) (y3 : Int32) (y4 : Int32) : Prop := bi_T X d 260 (42, [(0, .ref 77), (1, .int y1), (2, .int y2), (3, .int y3), (4, .int y4)], [], st_mm s) (st_RI K E)
def at_X12_meant_57 (X : bi_X) (d : Nat) (K : Int32 → bi_St → Prop) (E : Nat → bi_St → Prop) (s : bi_St) (y1 : Int32) (y2 : Int32) (y3 : Int32) (y4 : Int32) (y5 : Int32) : Prop := bi_T X d 260 (57, [(0, .ref 77), (1, .int y1), (2, .int y2), (3, .int y3), (4, .int y4), (5, .int y5)], [], st_mm s) (st_RI K E)
def at_X12_meant_70 (X : bi_X) (d : Nat) (K : Int32 → bi_St → Prop) (E : Nat → bi_St → Prop) (s : bi_St) (y1 : Int32) (y2 : Int32) (y3 : Int32) (y4 : Int32) (y5 : Int32) (y6 : Int32) : Prop := bi_T X d 260 (70, [(0, .ref 77), (1, .int y1), (2, .int y2), (3, .int y3), (4, .int y4), (5, .int y5), (6, .int y6)], [], st_mm s) (st_RI K E)
theorem go_X12_meant_42 {X : bi_X} {d : Nat} {K : Int32 → bi_St → Prop} {E : Nat → bi_St → Prop}  {s : bi_St} {y1 : Int32} {y2 : Int32} {y3 : Int32} {y4 : Int32}  (h : bi_in (7 : Int32) 144 = true ∧ ((((st_g s 90 ((7 : Int32)).toNatClampNeg) ≤ y4) → ((¬ y1 = 0) → K y3 s) ∧ (¬ (¬ y1 = 0) → K y2 s)) ∧ (¬ ((st_g s 90 ((7 : Int32)).toNatClampNeg) ≤ y4) → at_X12_meant_57 X (d + 1) K E s (y1) (y2) (y3) (y4) ((0 : Int32))))) : at_X12_meant_42 X (d + 1) K E s y1 y2 y3 y4 := by
  show bi_T _ _ _ _ _
  refine bi_Tr 4 (s' := (50, [(0, .ref 77), (1, .int y1), (2, .int y2), (3, .int y3), (4, .int y4)], [.int (7 : Int32), .ref 90, .int y4], st_mm s)) rfl ?_
  obtain ⟨hi, h⟩ := h
  refine bi_Tial rfl rfl rfl hi ?_
  refine bi_Tr 1 (s' := ((if (st_g s 90 ((7 : Int32)).toNatClampNeg) ≤ y4 then 129 else 54), [(0, .ref 77), (1, .int y1), (2, .int y2), (3, .int y3), (4, .int y4)], [], st_mm s)) rfl (bi_Tif (fun hc => ?_) (fun hc => ?_))
  · have h := h.1 hc
    refine bi_Tr 2 (s' := ((if ¬ y1 = 0 then 137 else 133), [(0, .ref 77), (1, .int y1), (2, .int y2), (3, .int y3), (4, .int y4)], [], st_mm s)) rfl (bi_Tif (fun hc => ?_) (fun hc => ?_))
    · have h := h.1 hc
      refine bi_Tr 1 (s' := (138, [(0, .ref 77), (1, .int y1), (2, .int y2), (3, .int y3), (4, .int y4)], [.int y3], st_mm s)) rfl ?_
      exact bi_Tv rfl rfl (Or.inl ⟨_, _, rfl, h⟩)
    · have h := h.2 hc
      refine bi_Tr 2 (s' := (138, [(0, .ref 77), (1, .int y1), (2, .int y2), (3, .int y3), (4, .int y4)], [.int y2], st_mm s)) rfl ?_
      exact bi_Tv rfl rfl (Or.inl ⟨_, _, rfl, h⟩)
  · have h := h.2 hc
    refine bi_Tr 2 (s' := (57, [(5, .int (0 : Int32)), (0, .ref 77), (1, .int y1), (2, .int y2), (3, .int y3), (4, .int y4)], [], st_mm s)) rfl ?_
    exact bi_Tww h rfl rfl ⟨rfl, rfl, rfl, rfl, rfl, rfl, trivial⟩
theorem go_X12_meant_57 {X : bi_X} {d : Nat} {K : Int32 → bi_St → Prop} {E : Nat → bi_St → Prop}  {s : bi_St} {y1 : Int32} {y2 : Int32} {y3 : Int32} {y4 : Int32} {y5 : Int32}  (h : (((st_g s 77 28) ≤ y5) → at_X12_meant_42 X (d + 1) K E s (y1) (y2) (y3) ((y4 + (1 : Int32)))) ∧ (¬ ((st_g s 77 28) ≤ y5) → at_X12_meant_70 X (d + 1) K E s (y1) (y2) (y3) (y4) (y5) ((-9 : Int32)))) : at_X12_meant_57 X (d + 1) K E s y1 y2 y3 y4 y5 := by
  show bi_T _ _ _ _ _
  refine bi_Tr 4 (s' := ((if (st_g s 77 28) ≤ y5 then 123 else 66), [(0, .ref 77), (1, .int y1), (2, .int y2), (3, .int y3), (4, .int y4), (5, .int y5)], [], st_mm s)) rfl (bi_Tif (fun hc => ?_) (fun hc => ?_))
  · have h := h.1 hc
    refine bi_Tr 2 (s' := (42, [(4, .int (y4 + (1 : Int32))), (0, .ref 77), (1, .int y1), (2, .int y2), (3, .int y3), (5, .int y5)], [], st_mm s)) rfl ?_
    exact bi_Tww h rfl rfl ⟨rfl, rfl, rfl, rfl, rfl, trivial⟩
  · have h := h.2 hc
    refine bi_Tr 2 (s' := (70, [(6, .int (-9 : Int32)), (0, .ref 77), (1, .int y1), (2, .int y2), (3, .int y3), (4, .int y4), (5, .int y5)], [], st_mm s)) rfl ?_
    exact bi_Tww h rfl rfl ⟨rfl, rfl, rfl, rfl, rfl, rfl, rfl, trivial⟩
theorem go_X12_meant_70 {X : bi_X} {d : Nat} {K : Int32 → bi_St → Prop} {E : Nat → bi_St → Prop}  {s : bi_St} {y1 : Int32} {y2 : Int32} {y3 : Int32} {y4 : Int32} {y5 : Int32} {y6 : Int32}  (h : (((10 : Int32) ≤ y6) → at_X12_meant_57 X (d + 1) K E s (y1) (y2) (y3) (y4) ((y5 + (1 : Int32)))) ∧ (¬ ((10 : Int32) ≤ y6) → cI X d 259 [.ref 77, .int y4, .int y5, .int y6] s (fun (r3 : Int32) (s3 : bi_St) => ((¬ r3 = 0) → ((¬ y3 = (-1 : Int32)) → at_X12_meant_70 X (d + 1) K E s3 (y1) ((y2 + (1 : Int32))) (y3) (y4) (y5) ((y6 + (1 : Int32)))) ∧ (¬ (¬ y3 = (-1 : Int32)) → cI X d 254 [.int y4, .int y5, .int y6] s3 (fun (r4 : Int32) (s4 : bi_St) => at_X12_meant_70 X (d + 1) K E s4 (y1) ((y2 + (1 : Int32))) (r4) (y4) (y5) ((y6 + (1 : Int32)))) (fun _ _ => False))) ∧ (¬ (¬ r3 = 0) → at_X12_meant_70 X (d + 1) K E s3 (y1) (y2) (y3) (y4) (y5) ((y6 + (1 : Int32))))) (fun _ _ => False))) : at_X12_meant_70 X (d + 1) K E s y1 y2 y3 y4 y5 y6 := by
  show bi_T _ _ _ _ _
  refine bi_Tr 3 (s' := ((if (10 : Int32) ≤ y6 then 117 else 77), [(0, .ref 77), (1, .int y1), (2, .int y2), (3, .int y3), (4, .int y4), (5, .int y5), (6, .int y6)], [], st_mm s)) rfl (bi_Tif (fun hc => ?_) (fun hc => ?_))
  · have h := h.1 hc
    refine bi_Tr 2 (s' := (57, [(5, .int (y5 + (1 : Int32))), (0, .ref 77), (1, .int y1), (2, .int y2), (3, .int y3), (4, .int y4), (6, .int y6)], [], st_mm s)) rfl ?_
    exact bi_Tww h rfl rfl ⟨rfl, rfl, rfl, rfl, rfl, rfl, trivial⟩
  · have h := h.2 hc
    refine bi_Tr 4 (s' := (84, [(0, .ref 77), (1, .int y1), (2, .int y2), (3, .int y3), (4, .int y4), (5, .int y5), (6, .int y6)], [.int y6, .int y5, .int y4, .ref 77], st_mm s)) rfl ?_
    refine bi_TcI (as := [.ref 77, .int y4, .int y5, .int y6]) rfl rfl ?_
    refine cI.mono h (fun r3 s3 h => ?_) (fun _ _ h => h.elim)
    refine bi_Tr 1 (s' := ((if ¬ r3 = 0 then 93 else 90), [(0, .ref 77), (1, .int y1), (2, .int y2), (3, .int y3), (4, .int y4), (5, .int y5), (6, .int y6)], [], st_mm s3)) rfl (bi_Tif (fun hc => ?_) (fun hc => ?_))
    · have h := h.1 hc
      refine bi_Tr 4 (s' := ((if ¬ y3 = (-1 : Int32) then 111 else 101), [(2, .int (y2 + (1 : Int32))), (0, .ref 77), (1, .int y1), (3, .int y3), (4, .int y4), (5, .int y5), (6, .int y6)], [], st_mm s3)) rfl (bi_Tif (fun hc => ?_) (fun hc => ?_))
      · have h := h.1 hc
        refine bi_Tr 2 (s' := (70, [(6, .int (y6 + (1 : Int32))), (2, .int (y2 + (1 : Int32))), (0, .ref 77), (1, .int y1), (3, .int y3), (4, .int y4), (5, .int y5)], [], st_mm s3)) rfl ?_
        exact bi_Tww h rfl rfl ⟨rfl, rfl, rfl, rfl, rfl, rfl, rfl, trivial⟩
      · have h := h.2 hc
        refine bi_Tr 3 (s' := (107, [(2, .int (y2 + (1 : Int32))), (0, .ref 77), (1, .int y1), (3, .int y3), (4, .int y4), (5, .int y5), (6, .int y6)], [.int y6, .int y5, .int y4], st_mm s3)) rfl ?_
        refine bi_TcI (as := [.int y4, .int y5, .int y6]) rfl rfl ?_
        refine cI.mono h (fun r4 s4 h => ?_) (fun _ _ h => h.elim)
        refine bi_Tr 3 (s' := (70, [(6, .int (y6 + (1 : Int32))), (3, .int r4), (2, .int (y2 + (1 : Int32))), (0, .ref 77), (1, .int y1), (4, .int y4), (5, .int y5)], [], st_mm s4)) rfl ?_
        exact bi_Tww h rfl rfl ⟨rfl, rfl, rfl, rfl, rfl, rfl, rfl, trivial⟩
    · have h := h.2 hc
      refine bi_Tr 3 (s' := (70, [(6, .int (y6 + (1 : Int32))), (0, .ref 77), (1, .int y1), (2, .int y2), (3, .int y3), (4, .int y4), (5, .int y5)], [], st_mm s3)) rfl ?_
      exact bi_Tww h rfl rfl ⟨rfl, rfl, rfl, rfl, rfl, rfl, rfl, trivial⟩
/-- PolicyRowsModel.meant(I)I -/
theorem en_X12_meant {X : bi_X} {d : Nat} {K : Int32 → bi_St → Prop} {E : Nat → bi_St → Prop} {s : bi_St} {x0 : Int32}  (h : cI X d 224 [.ref 77, .int x0, .int (2 : Int32)] (st_p s 77 0 (0 : Int32)) (fun (r1 : Int32) (s1 : bi_St) => ((¬ r1 = 0) → ((¬ x0 = (2 : Int32)) → at_X12_meant_42 X (d + 1) K E s1 (x0) ((0 : Int32)) ((-1 : Int32)) ((0 : Int32))) ∧ (¬ (¬ x0 = (2 : Int32)) → cI X d 258 [.ref 77, .int (0 : Int32)] s1 (fun (r2 : Int32) (s2 : bi_St) => ((r2 = 0) → K (0 : Int32) s2) ∧ (¬ (r2 = 0) → K (1 : Int32) s2)) (fun _ _ => False))) ∧ (¬ (¬ r1 = 0) → K (0 : Int32) s1)) (fun _ _ => False)) : cI X (d + 1) 260 [.ref 77, .int x0] s K E := by
  show bi_T _ _ _ _ _
  refine bi_Tr 6 (s' := (8, [(0, .ref 77), (1, .int x0)], [.int (2 : Int32), .int x0, .ref 77], st_mm (st_p s 77 0 (0 : Int32)))) rfl ?_
  refine bi_TcI (as := [.ref 77, .int x0, .int (2 : Int32)]) rfl rfl ?_
  refine cI.mono h (fun r1 s1 h => ?_) (fun _ _ h => h.elim)
  refine bi_Tr 1 (s' := ((if ¬ r1 = 0 then 16 else 14), [(0, .ref 77), (1, .int x0)], [], st_mm s1)) rfl (bi_Tif (fun hc => ?_) (fun hc => ?_))
  · have h := h.1 hc
    refine bi_Tr 3 (s' := ((if ¬ x0 = (2 : Int32) then 35 else 21), [(0, .ref 77), (1, .int x0)], [], st_mm s1)) rfl (bi_Tif (fun hc => ?_) (fun hc => ?_))
    · have h := h.1 hc
      refine bi_Tr 6 (s' := (42, [(4, .int (0 : Int32)), (3, .int (-1 : Int32)), (2, .int (0 : Int32)), (0, .ref 77), (1, .int x0)], [], st_mm s1)) rfl ?_
      exact bi_Tww h rfl rfl ⟨rfl, rfl, rfl, rfl, rfl, trivial⟩
    · have h := h.2 hc
      refine bi_Tr 2 (s' := (23, [(0, .ref 77), (1, .int x0)], [.int (0 : Int32), .ref 77], st_mm s1)) rfl ?_
      refine bi_TcI (as := [.ref 77, .int (0 : Int32)]) rfl rfl ?_
      refine cI.mono h (fun r2 s2 h => ?_) (fun _ _ h => h.elim)
      refine bi_Tr 1 (s' := ((if r2 = 0 then 33 else 29), [(0, .ref 77), (1, .int x0)], [], st_mm s2)) rfl (bi_Tif (fun hc => ?_) (fun hc => ?_))
      · have h := h.1 hc
        refine bi_Tr 1 (s' := (34, [(0, .ref 77), (1, .int x0)], [.int (0 : Int32)], st_mm s2)) rfl ?_
        exact bi_Tv rfl rfl (Or.inl ⟨_, _, rfl, h⟩)
      · have h := h.2 hc
        refine bi_Tr 2 (s' := (34, [(0, .ref 77), (1, .int x0)], [.int (1 : Int32)], st_mm s2)) rfl ?_
        exact bi_Tv rfl rfl (Or.inl ⟨_, _, rfl, h⟩)
  · have h := h.2 hc
    refine bi_Tr 1 (s' := (15, [(0, .ref 77), (1, .int x0)], [.int (0 : Int32)], st_mm s1)) rfl ?_
    exact bi_Tv rfl rfl (Or.inl ⟨_, _, rfl, h⟩)
def at_X12_look_20 (X : bi_X) (d : Nat) (K : Int32 → bi_St → Prop) (E : Nat → bi_St → Prop) (s : bi_St) (y1 : Int32) (y2 : Int32) (y3 : Int32) : Prop := bi_T X d 261 (20, [(0, .ref 77), (1, .int y1), (2, .int y2), (3, .int y3)], [], st_mm s) (st_RI K E)
def at_X12_look_136 (X : bi_X) (d : Nat) (K : Int32 → bi_St → Prop) (E : Nat → bi_St → Prop) (s : bi_St) (y1 : Int32) (y2 : Int32) (y3 : Int32) (y4 : Int32) (y5 : Int32) : Prop := bi_T X d 261 (136, [(0, .ref 77), (1, .int y1), (2, .int y2), (3, .int y3), (4, .int y4), (5, .int y5)], [], st_mm s) (st_RI K E)
def at_X12_look_34 (X : bi_X) (d : Nat) (K : Int32 → bi_St → Prop) (E : Nat → bi_St → Prop) (s : bi_St) (y1 : Int32) (y2 : Int32) (y3 : Int32) (y4 : Int32) : Prop := bi_T X d 261 (34, [(0, .ref 77), (1, .int y1), (2, .int y2), (3, .int y3), (4, .int y4)], [], st_mm s) (st_RI K E)
def at_X12_look_151 (X : bi_X) (d : Nat) (K : Int32 → bi_St → Prop) (E : Nat → bi_St → Prop) (s : bi_St) (y1 : Int32) (y2 : Int32) (y3 : Int32) (y4 : Int32) (y5 : Int32) (y6 : Int32) (y7 : Int32) : Prop := bi_T X d 261 (151, [(0, .ref 77), (1, .int y1), (2, .int y2), (3, .int y3), (4, .int y4), (5, .int y5), (6, .int y6), (7, .int y7)], [], st_mm s) (st_RI K E)
def at_X12_look_47 (X : bi_X) (d : Nat) (K : Int32 → bi_St → Prop) (E : Nat → bi_St → Prop) (s : bi_St) (y1 : Int32) (y2 : Int32) (y3 : Int32) (y4 : Int32) (y5 : Int32) : Prop := bi_T X d 261 (47, [(0, .ref 77), (1, .int y1), (2, .int y2), (3, .int y3), (4, .int y4), (5, .int y5)], [], st_mm s) (st_RI K E)
def at_X12_look_255 (X : bi_X) (d : Nat) (K : Int32 → bi_St → Prop) (E : Nat → bi_St → Prop) (s : bi_St) (y1 : Int32) (y2 : Int32) (y3 : Int32) (y4 : Int32) (y5 : Int32) : Prop := bi_T X d 261 (255, [(0, .ref 77), (1, .int y1), (2, .int y2), (3, .int y3), (4, .int y4), (5, .int y5)], [], st_mm s) (st_RI K E)
def at_X12_look_163 (X : bi_X) (d : Nat) (K : Int32 → bi_St → Prop) (E : Nat → bi_St → Prop) (s : bi_St) (y1 : Int32) (y2 : Int32) (y3 : Int32) (y4 : Int32) (y5 : Int32) (y6 : Int32) (y7 : Int32) (y8 : Int32) (y9 : Int32) : Prop := bi_T X d 261 (163, [(0, .ref 77), (1, .int y1), (2, .int y2), (3, .int y3), (4, .int y4), (5, .int y5), (6, .int y6), (7, .int y7), (8, .int y8), (9, .int y9)], [], st_mm s) (st_RI K E)
def at_X12_look_72 (X : bi_X) (d : Nat) (K : Int32 → bi_St → Prop) (E : Nat → bi_St → Prop) (s : bi_St) (y1 : Int32) (y2 : Int32) (y3 : Int32) (y4 : Int32) (y5 : Int32) (y6 : Int32) : Prop := bi_T X d 261 (72, [(0, .ref 77), (1, .int y1), (2, .int y2), (3, .int y3), (4, .int y4), (5, .int y5), (6, .int y6)], [], st_mm s) (st_RI K E)
def at_X12_look_110 (X : bi_X) (d : Nat) (K : Int32 → bi_St → Prop) (E : Nat → bi_St → Prop) (s : bi_St) (y1 : Int32) (y2 : Int32) (y3 : Int32) (y4 : Int32) (y5 : Int32) : Prop := bi_T X d 261 (110, [(0, .ref 77), (1, .int y1), (2, .int y2), (3, .int y3), (4, .int y4), (5, .int y5)], [], st_mm s) (st_RI K E)
def at_X12_look_217 (X : bi_X) (d : Nat) (K : Int32 → bi_St → Prop) (E : Nat → bi_St → Prop) (s : bi_St) (y1 : Int32) (y2 : Int32) (y3 : Int32) (y4 : Int32) (y5 : Int32) (y6 : Int32) (y7 : Int32) (y8 : Int32) : Prop := bi_T X d 261 (217, [(0, .ref 77), (1, .int y1), (2, .int y2), (3, .int y3), (4, .int y4), (5, .int y5), (6, .int y6), (7, .int y7), (8, .int y8)], [], st_mm s) (st_RI K E)
theorem go_X12_look_20 {X : bi_X} {d : Nat} {K : Int32 → bi_St → Prop} {E : Nat → bi_St → Prop}  {s : bi_St} {y1 : Int32} {y2 : Int32} {y3 : Int32}  (h : bi_in (7 : Int32) 144 = true ∧ ((((st_g s 90 ((7 : Int32)).toNatClampNeg) ≤ y3) → at_X12_look_136 X (d + 1) K E s (y1) (y2) ((-1 : Int32)) ((0 : Int32)) ((0 : Int32))) ∧ (¬ ((st_g s 90 ((7 : Int32)).toNatClampNeg) ≤ y3) → at_X12_look_34 X (d + 1) K E s (y1) (y2) (y3) ((0 : Int32))))) : at_X12_look_20 X (d + 1) K E s y1 y2 y3 := by
  show bi_T _ _ _ _ _
  refine bi_Tr 4 (s' := (27, [(0, .ref 77), (1, .int y1), (2, .int y2), (3, .int y3)], [.int (7 : Int32), .ref 90, .int y3], st_mm s)) rfl ?_
  obtain ⟨hi, h⟩ := h
  refine bi_Tial rfl rfl rfl hi ?_
  refine bi_Tr 1 (s' := ((if (st_g s 90 ((7 : Int32)).toNatClampNeg) ≤ y3 then 128 else 31), [(0, .ref 77), (1, .int y1), (2, .int y2), (3, .int y3)], [], st_mm s)) rfl (bi_Tif (fun hc => ?_) (fun hc => ?_))
  · have h := h.1 hc
    refine bi_Tr 6 (s' := (136, [(5, .int (0 : Int32)), (4, .int (0 : Int32)), (3, .int (-1 : Int32)), (0, .ref 77), (1, .int y1), (2, .int y2)], [], st_mm s)) rfl ?_
    exact bi_Tww h rfl rfl ⟨rfl, rfl, rfl, rfl, rfl, rfl, trivial⟩
  · have h := h.2 hc
    refine bi_Tr 2 (s' := (34, [(4, .int (0 : Int32)), (0, .ref 77), (1, .int y1), (2, .int y2), (3, .int y3)], [], st_mm s)) rfl ?_
    exact bi_Tww h rfl rfl ⟨rfl, rfl, rfl, rfl, rfl, trivial⟩
theorem go_X12_look_136 {X : bi_X} {d : Nat} {K : Int32 → bi_St → Prop} {E : Nat → bi_St → Prop}  {s : bi_St} {y1 : Int32} {y2 : Int32} {y3 : Int32} {y4 : Int32} {y5 : Int32}  (h : (((st_g s 77 27) ≤ y5) → ((¬ y1 = 0) → K y4 s) ∧ (¬ (¬ y1 = 0) → K y3 s)) ∧ (¬ ((st_g s 77 27) ≤ y5) → at_X12_look_151 X (d + 1) K E s (y1) (y2) (y3) (y4) (y5) ((0 : Int32)) ((0 : Int32)))) : at_X12_look_136 X (d + 1) K E s y1 y2 y3 y4 y5 := by
  show bi_T _ _ _ _ _
  refine bi_Tr 4 (s' := ((if (st_g s 77 27) ≤ y5 then 261 else 145), [(0, .ref 77), (1, .int y1), (2, .int y2), (3, .int y3), (4, .int y4), (5, .int y5)], [], st_mm s)) rfl (bi_Tif (fun hc => ?_) (fun hc => ?_))
  · have h := h.1 hc
    refine bi_Tr 2 (s' := ((if ¬ y1 = 0 then 269 else 265), [(0, .ref 77), (1, .int y1), (2, .int y2), (3, .int y3), (4, .int y4), (5, .int y5)], [], st_mm s)) rfl (bi_Tif (fun hc => ?_) (fun hc => ?_))
    · have h := h.1 hc
      refine bi_Tr 1 (s' := (271, [(0, .ref 77), (1, .int y1), (2, .int y2), (3, .int y3), (4, .int y4), (5, .int y5)], [.int y4], st_mm s)) rfl ?_
      exact bi_Tv rfl rfl (Or.inl ⟨_, _, rfl, h⟩)
    · have h := h.2 hc
      refine bi_Tr 2 (s' := (271, [(0, .ref 77), (1, .int y1), (2, .int y2), (3, .int y3), (4, .int y4), (5, .int y5)], [.int y3], st_mm s)) rfl ?_
      exact bi_Tv rfl rfl (Or.inl ⟨_, _, rfl, h⟩)
  · have h := h.2 hc
    refine bi_Tr 4 (s' := (151, [(7, .int (0 : Int32)), (6, .int (0 : Int32)), (0, .ref 77), (1, .int y1), (2, .int y2), (3, .int y3), (4, .int y4), (5, .int y5)], [], st_mm s)) rfl ?_
    exact bi_Tww h rfl rfl ⟨rfl, rfl, rfl, rfl, rfl, rfl, rfl, rfl, trivial⟩
theorem go_X12_look_34 {X : bi_X} {d : Nat} {K : Int32 → bi_St → Prop} {E : Nat → bi_St → Prop}  {s : bi_St} {y1 : Int32} {y2 : Int32} {y3 : Int32} {y4 : Int32}  (h : (((st_g s 77 28) ≤ y4) → at_X12_look_20 X (d + 1) K E s (y1) (y2) ((y3 + (1 : Int32)))) ∧ (¬ ((st_g s 77 28) ≤ y4) → at_X12_look_47 X (d + 1) K E s (y1) (y2) (y3) (y4) ((-9 : Int32)))) : at_X12_look_34 X (d + 1) K E s y1 y2 y3 y4 := by
  show bi_T _ _ _ _ _
  refine bi_Tr 4 (s' := ((if (st_g s 77 28) ≤ y4 then 122 else 43), [(0, .ref 77), (1, .int y1), (2, .int y2), (3, .int y3), (4, .int y4)], [], st_mm s)) rfl (bi_Tif (fun hc => ?_) (fun hc => ?_))
  · have h := h.1 hc
    refine bi_Tr 2 (s' := (20, [(3, .int (y3 + (1 : Int32))), (0, .ref 77), (1, .int y1), (2, .int y2), (4, .int y4)], [], st_mm s)) rfl ?_
    exact bi_Tww h rfl rfl ⟨rfl, rfl, rfl, rfl, trivial⟩
  · have h := h.2 hc
    refine bi_Tr 2 (s' := (47, [(5, .int (-9 : Int32)), (0, .ref 77), (1, .int y1), (2, .int y2), (3, .int y3), (4, .int y4)], [], st_mm s)) rfl ?_
    exact bi_Tww h rfl rfl ⟨rfl, rfl, rfl, rfl, rfl, rfl, trivial⟩
theorem go_X12_look_151 {X : bi_X} {d : Nat} {K : Int32 → bi_St → Prop} {E : Nat → bi_St → Prop}  {s : bi_St} {y1 : Int32} {y2 : Int32} {y3 : Int32} {y4 : Int32} {y5 : Int32} {y6 : Int32} {y7 : Int32}  (h : ((y2 ≤ y7) → ((y4 < y6) → at_X12_look_255 X (d + 1) K E s (y1) (y2) (y5) (y6) (y5)) ∧ (¬ (y4 < y6) → at_X12_look_255 X (d + 1) K E s (y1) (y2) (y3) (y4) (y5))) ∧ (¬ (y2 ≤ y7) → at_X12_look_163 X (d + 1) K E s (y1) (y2) (y3) (y4) (y5) (y6) (y7) ((1 : Int32)) ((0 : Int32)))) : at_X12_look_151 X (d + 1) K E s y1 y2 y3 y4 y5 y6 y7 := by
  show bi_T _ _ _ _ _
  refine bi_Tr 3 (s' := ((if y2 ≤ y7 then 238 else 157), [(0, .ref 77), (1, .int y1), (2, .int y2), (3, .int y3), (4, .int y4), (5, .int y5), (6, .int y6), (7, .int y7)], [], st_mm s)) rfl (bi_Tif (fun hc => ?_) (fun hc => ?_))
  · have h := h.1 hc
    refine bi_Tr 3 (s' := ((if y4 < y6 then 248 else 245), [(0, .ref 77), (1, .int y1), (2, .int y2), (3, .int y3), (4, .int y4), (5, .int y5), (6, .int y6), (7, .int y7)], [], st_mm s)) rfl (bi_Tif (fun hc => ?_) (fun hc => ?_))
    · have h := h.1 hc
      refine bi_Tr 4 (s' := (255, [(4, .int y6), (3, .int y5), (0, .ref 77), (1, .int y1), (2, .int y2), (5, .int y5), (6, .int y6), (7, .int y7)], [], st_mm s)) rfl ?_
      exact bi_Tww h rfl rfl ⟨rfl, rfl, rfl, rfl, rfl, rfl, trivial⟩
    · have h := h.2 hc
      refine bi_Tr 1 (s' := (255, [(0, .ref 77), (1, .int y1), (2, .int y2), (3, .int y3), (4, .int y4), (5, .int y5), (6, .int y6), (7, .int y7)], [], st_mm s)) rfl ?_
      exact bi_Tww h rfl rfl ⟨rfl, rfl, rfl, rfl, rfl, rfl, trivial⟩
  · have h := h.2 hc
    refine bi_Tr 4 (s' := (163, [(9, .int (0 : Int32)), (8, .int (1 : Int32)), (0, .ref 77), (1, .int y1), (2, .int y2), (3, .int y3), (4, .int y4), (5, .int y5), (6, .int y6), (7, .int y7)], [], st_mm s)) rfl ?_
    exact bi_Tww h rfl rfl ⟨rfl, rfl, rfl, rfl, rfl, rfl, rfl, rfl, rfl, rfl, trivial⟩
theorem go_X12_look_47 {X : bi_X} {d : Nat} {K : Int32 → bi_St → Prop} {E : Nat → bi_St → Prop}  {s : bi_St} {y1 : Int32} {y2 : Int32} {y3 : Int32} {y4 : Int32} {y5 : Int32}  (h : (((10 : Int32) ≤ y5) → at_X12_look_34 X (d + 1) K E s (y1) (y2) (y3) ((y4 + (1 : Int32)))) ∧ (¬ ((10 : Int32) ≤ y5) → cI X d 259 [.ref 77, .int y3, .int y4, .int y5] s (fun (r2 : Int32) (s2 : bi_St) => ((¬ r2 = 0) → at_X12_look_72 X (d + 1) K E s2 (y1) (y2) (y3) (y4) (y5) ((0 : Int32))) ∧ (¬ (¬ r2 = 0) → at_X12_look_110 X (d + 1) K E s2 (y1) (y2) (y3) (y4) (y5))) (fun _ _ => False))) : at_X12_look_47 X (d + 1) K E s y1 y2 y3 y4 y5 := by
  show bi_T _ _ _ _ _
  refine bi_Tr 3 (s' := ((if (10 : Int32) ≤ y5 then 116 else 54), [(0, .ref 77), (1, .int y1), (2, .int y2), (3, .int y3), (4, .int y4), (5, .int y5)], [], st_mm s)) rfl (bi_Tif (fun hc => ?_) (fun hc => ?_))
  · have h := h.1 hc
    refine bi_Tr 2 (s' := (34, [(4, .int (y4 + (1 : Int32))), (0, .ref 77), (1, .int y1), (2, .int y2), (3, .int y3), (5, .int y5)], [], st_mm s)) rfl ?_
    exact bi_Tww h rfl rfl ⟨rfl, rfl, rfl, rfl, rfl, trivial⟩
  · have h := h.2 hc
    refine bi_Tr 4 (s' := (60, [(0, .ref 77), (1, .int y1), (2, .int y2), (3, .int y3), (4, .int y4), (5, .int y5)], [.int y5, .int y4, .int y3, .ref 77], st_mm s)) rfl ?_
    refine bi_TcI (as := [.ref 77, .int y3, .int y4, .int y5]) rfl rfl ?_
    refine cI.mono h (fun r2 s2 h => ?_) (fun _ _ h => h.elim)
    refine bi_Tr 1 (s' := ((if ¬ r2 = 0 then 69 else 66), [(0, .ref 77), (1, .int y1), (2, .int y2), (3, .int y3), (4, .int y4), (5, .int y5)], [], st_mm s2)) rfl (bi_Tif (fun hc => ?_) (fun hc => ?_))
    · have h := h.1 hc
      refine bi_Tr 2 (s' := (72, [(6, .int (0 : Int32)), (0, .ref 77), (1, .int y1), (2, .int y2), (3, .int y3), (4, .int y4), (5, .int y5)], [], st_mm s2)) rfl ?_
      exact bi_Tww h rfl rfl ⟨rfl, rfl, rfl, rfl, rfl, rfl, rfl, trivial⟩
    · have h := h.2 hc
      refine bi_Tr 1 (s' := (110, [(0, .ref 77), (1, .int y1), (2, .int y2), (3, .int y3), (4, .int y4), (5, .int y5)], [], st_mm s2)) rfl ?_
      exact bi_Tww h rfl rfl ⟨rfl, rfl, rfl, rfl, rfl, rfl, trivial⟩
theorem go_X12_look_255 {X : bi_X} {d : Nat} {K : Int32 → bi_St → Prop} {E : Nat → bi_St → Prop}  {s : bi_St} {y1 : Int32} {y2 : Int32} {y3 : Int32} {y4 : Int32} {y5 : Int32}  (h : at_X12_look_136 X (d + 1) K E s (y1) (y2) (y3) (y4) ((y5 + (1 : Int32)))) : at_X12_look_255 X (d + 1) K E s y1 y2 y3 y4 y5 := by
  show bi_T _ _ _ _ _
  refine bi_Tr 2 (s' := (136, [(5, .int (y5 + (1 : Int32))), (0, .ref 77), (1, .int y1), (2, .int y2), (3, .int y3), (4, .int y4)], [], st_mm s)) rfl ?_
  exact bi_Tww h rfl rfl ⟨rfl, rfl, rfl, rfl, rfl, rfl, trivial⟩
theorem go_X12_look_163 {X : bi_X} {d : Nat} {K : Int32 → bi_St → Prop} {E : Nat → bi_St → Prop}  {s : bi_St} {y1 : Int32} {y2 : Int32} {y3 : Int32} {y4 : Int32} {y5 : Int32} {y6 : Int32} {y7 : Int32} {y8 : Int32} {y9 : Int32}  (h : ((y7 ≤ y9) → at_X12_look_217 X (d + 1) K E s (y1) (y2) (y3) (y4) (y5) (y6) (y7) (y8)) ∧ (¬ (y7 ≤ y9) → ((y8 = 0) → at_X12_look_217 X (d + 1) K E s (y1) (y2) (y3) (y4) (y5) (y6) (y7) (y8)) ∧ (¬ (y8 = 0) → bi_in (((6 : Int32) * y7) + y5) 7296 = true ∧ (bi_in (((6 : Int32) * y9) + y5) 7296 = true ∧ ((((st_g s 107 ((((6 : Int32) * y7) + y5)).toNatClampNeg) = (st_g s 107 ((((6 : Int32) * y9) + y5)).toNatClampNeg)) → at_X12_look_163 X (d + 1) K E s (y1) (y2) (y3) (y4) (y5) (y6) (y7) ((0 : Int32)) ((y9 + (1 : Int32)))) ∧ (¬ ((st_g s 107 ((((6 : Int32) * y7) + y5)).toNatClampNeg) = (st_g s 107 ((((6 : Int32) * y9) + y5)).toNatClampNeg)) → at_X12_look_163 X (d + 1) K E s (y1) (y2) (y3) (y4) (y5) (y6) (y7) ((1 : Int32)) ((y9 + (1 : Int32))))))))) : at_X12_look_163 X (d + 1) K E s y1 y2 y3 y4 y5 y6 y7 y8 y9 := by
  show bi_T _ _ _ _ _
  refine bi_Tr 3 (s' := ((if y7 ≤ y9 then 217 else 170), [(0, .ref 77), (1, .int y1), (2, .int y2), (3, .int y3), (4, .int y4), (5, .int y5), (6, .int y6), (7, .int y7), (8, .int y8), (9, .int y9)], [], st_mm s)) rfl (bi_Tif (fun hc => ?_) (fun hc => ?_))
  · have h := h.1 hc
    exact bi_Tww h rfl rfl ⟨rfl, rfl, rfl, rfl, rfl, rfl, rfl, rfl, rfl, trivial⟩
  · have h := h.2 hc
    refine bi_Tr 2 (s' := ((if y8 = 0 then 217 else 175), [(0, .ref 77), (1, .int y1), (2, .int y2), (3, .int y3), (4, .int y4), (5, .int y5), (6, .int y6), (7, .int y7), (8, .int y8), (9, .int y9)], [], st_mm s)) rfl (bi_Tif (fun hc => ?_) (fun hc => ?_))
    · have h := h.1 hc
      exact bi_Tww h rfl rfl ⟨rfl, rfl, rfl, rfl, rfl, rfl, rfl, rfl, rfl, trivial⟩
    · have h := h.2 hc
      refine bi_Tr 7 (s' := (187, [(0, .ref 77), (1, .int y1), (2, .int y2), (3, .int y3), (4, .int y4), (5, .int y5), (6, .int y6), (7, .int y7), (8, .int y8), (9, .int y9)], [.int (((6 : Int32) * y7) + y5), .ref 107], st_mm s)) rfl ?_
      obtain ⟨hi, h⟩ := h
      refine bi_Tial rfl rfl rfl hi ?_
      refine bi_Tr 7 (s' := (200, [(0, .ref 77), (1, .int y1), (2, .int y2), (3, .int y3), (4, .int y4), (5, .int y5), (6, .int y6), (7, .int y7), (8, .int y8), (9, .int y9)], [.int (((6 : Int32) * y9) + y5), .ref 107, .int (st_g s 107 ((((6 : Int32) * y7) + y5)).toNatClampNeg)], st_mm s)) rfl ?_
      obtain ⟨hi, h⟩ := h
      refine bi_Tial rfl rfl rfl hi ?_
      refine bi_Tr 1 (s' := ((if (st_g s 107 ((((6 : Int32) * y7) + y5)).toNatClampNeg) = (st_g s 107 ((((6 : Int32) * y9) + y5)).toNatClampNeg) then 208 else 204), [(0, .ref 77), (1, .int y1), (2, .int y2), (3, .int y3), (4, .int y4), (5, .int y5), (6, .int y6), (7, .int y7), (8, .int y8), (9, .int y9)], [], st_mm s)) rfl (bi_Tif (fun hc => ?_) (fun hc => ?_))
      · have h := h.1 hc
        refine bi_Tr 4 (s' := (163, [(9, .int (y9 + (1 : Int32))), (8, .int (0 : Int32)), (0, .ref 77), (1, .int y1), (2, .int y2), (3, .int y3), (4, .int y4), (5, .int y5), (6, .int y6), (7, .int y7)], [], st_mm s)) rfl ?_
        exact bi_Tww h rfl rfl ⟨rfl, rfl, rfl, rfl, rfl, rfl, rfl, rfl, rfl, rfl, trivial⟩
      · have h := h.2 hc
        refine bi_Tr 5 (s' := (163, [(9, .int (y9 + (1 : Int32))), (8, .int (1 : Int32)), (0, .ref 77), (1, .int y1), (2, .int y2), (3, .int y3), (4, .int y4), (5, .int y5), (6, .int y6), (7, .int y7)], [], st_mm s)) rfl ?_
        exact bi_Tww h rfl rfl ⟨rfl, rfl, rfl, rfl, rfl, rfl, rfl, rfl, rfl, rfl, trivial⟩
theorem go_X12_look_72 {X : bi_X} {d : Nat} {K : Int32 → bi_St → Prop} {E : Nat → bi_St → Prop}  {s : bi_St} {y1 : Int32} {y2 : Int32} {y3 : Int32} {y4 : Int32} {y5 : Int32} {y6 : Int32}  (h : (((st_g s 77 27) ≤ y6) → at_X12_look_110 X (d + 1) K E s (y1) ((y2 + (1 : Int32))) (y3) (y4) (y5)) ∧ (¬ ((st_g s 77 27) ≤ y6) → cI X d 217 [.ref 77, .int (72 : Int32), .int y6] s (fun (r3 : Int32) (s3 : bi_St) => bi_in (((6 : Int32) * y2) + y6) 7296 = true ∧ (at_X12_look_72 X (d + 1) K E (st_p s3 107 ((((6 : Int32) * y2) + y6)).toNatClampNeg r3) (y1) (y2) (y3) (y4) (y5) ((y6 + (1 : Int32))))) (fun _ _ => False))) : at_X12_look_72 X (d + 1) K E s y1 y2 y3 y4 y5 y6 := by
  show bi_T _ _ _ _ _
  refine bi_Tr 4 (s' := ((if (st_g s 77 27) ≤ y6 then 107 else 81), [(0, .ref 77), (1, .int y1), (2, .int y2), (3, .int y3), (4, .int y4), (5, .int y5), (6, .int y6)], [], st_mm s)) rfl (bi_Tif (fun hc => ?_) (fun hc => ?_))
  · have h := h.1 hc
    refine bi_Tr 1 (s' := (110, [(2, .int (y2 + (1 : Int32))), (0, .ref 77), (1, .int y1), (3, .int y3), (4, .int y4), (5, .int y5), (6, .int y6)], [], st_mm s)) rfl ?_
    exact bi_Tww h rfl rfl ⟨rfl, rfl, rfl, rfl, rfl, rfl, trivial⟩
  · have h := h.2 hc
    refine bi_Tr 10 (s' := (97, [(0, .ref 77), (1, .int y1), (2, .int y2), (3, .int y3), (4, .int y4), (5, .int y5), (6, .int y6)], [.int y6, .int (72 : Int32), .ref 77, .int (((6 : Int32) * y2) + y6), .ref 107], st_mm s)) rfl ?_
    refine bi_TcI (as := [.ref 77, .int (72 : Int32), .int y6]) rfl rfl ?_
    refine cI.mono h (fun r3 s3 h => ?_) (fun _ _ h => h.elim)
    obtain ⟨hi, h⟩ := h
    refine bi_Tias rfl rfl hi ?_
    refine bi_Tr 2 (s' := (72, [(6, .int (y6 + (1 : Int32))), (0, .ref 77), (1, .int y1), (2, .int y2), (3, .int y3), (4, .int y4), (5, .int y5)], [], st_mm (st_p s3 107 ((((6 : Int32) * y2) + y6)).toNatClampNeg r3))) rfl ?_
    exact bi_Tww h rfl rfl ⟨rfl, rfl, rfl, rfl, rfl, rfl, rfl, trivial⟩
theorem go_X12_look_110 {X : bi_X} {d : Nat} {K : Int32 → bi_St → Prop} {E : Nat → bi_St → Prop}  {s : bi_St} {y1 : Int32} {y2 : Int32} {y3 : Int32} {y4 : Int32} {y5 : Int32}  (h : at_X12_look_47 X (d + 1) K E s (y1) (y2) (y3) (y4) ((y5 + (1 : Int32)))) : at_X12_look_110 X (d + 1) K E s y1 y2 y3 y4 y5 := by
  show bi_T _ _ _ _ _
  refine bi_Tr 2 (s' := (47, [(5, .int (y5 + (1 : Int32))), (0, .ref 77), (1, .int y1), (2, .int y2), (3, .int y3), (4, .int y4)], [], st_mm s)) rfl ?_
  exact bi_Tww h rfl rfl ⟨rfl, rfl, rfl, rfl, rfl, rfl, trivial⟩
theorem go_X12_look_217 {X : bi_X} {d : Nat} {K : Int32 → bi_St → Prop} {E : Nat → bi_St → Prop}  {s : bi_St} {y1 : Int32} {y2 : Int32} {y3 : Int32} {y4 : Int32} {y5 : Int32} {y6 : Int32} {y7 : Int32} {y8 : Int32}  (h : ((y8 = 0) → at_X12_look_151 X (d + 1) K E s (y1) (y2) (y3) (y4) (y5) ((y6 + (0 : Int32))) ((y7 + (1 : Int32)))) ∧ (¬ (y8 = 0) → at_X12_look_151 X (d + 1) K E s (y1) (y2) (y3) (y4) (y5) ((y6 + (1 : Int32))) ((y7 + (1 : Int32))))) : at_X12_look_217 X (d + 1) K E s y1 y2 y3 y4 y5 y6 y7 y8 := by
  show bi_T _ _ _ _ _
  refine bi_Tr 3 (s' := ((if y8 = 0 then 228 else 224), [(0, .ref 77), (1, .int y1), (2, .int y2), (3, .int y3), (4, .int y4), (5, .int y5), (6, .int y6), (7, .int y7), (8, .int y8)], [.int y6], st_mm s)) rfl (bi_Tif (fun hc => ?_) (fun hc => ?_))
  · have h := h.1 hc
    refine bi_Tr 5 (s' := (151, [(7, .int (y7 + (1 : Int32))), (6, .int (y6 + (0 : Int32))), (0, .ref 77), (1, .int y1), (2, .int y2), (3, .int y3), (4, .int y4), (5, .int y5), (8, .int y8)], [], st_mm s)) rfl ?_
    exact bi_Tww h rfl rfl ⟨rfl, rfl, rfl, rfl, rfl, rfl, rfl, rfl, trivial⟩
  · have h := h.2 hc
    refine bi_Tr 6 (s' := (151, [(7, .int (y7 + (1 : Int32))), (6, .int (y6 + (1 : Int32))), (0, .ref 77), (1, .int y1), (2, .int y2), (3, .int y3), (4, .int y4), (5, .int y5), (8, .int y8)], [], st_mm s)) rfl ?_
    exact bi_Tww h rfl rfl ⟨rfl, rfl, rfl, rfl, rfl, rfl, rfl, rfl, trivial⟩
/-- PolicyRowsModel.look(I)I -/
theorem en_X12_look {X : bi_X} {d : Nat} {K : Int32 → bi_St → Prop} {E : Nat → bi_St → Prop} {s : bi_St} {x0 : Int32}  (h : cI X d 224 [.ref 77, .int x0, .int (1 : Int32)] (st_p s 77 0 (0 : Int32)) (fun (r1 : Int32) (s1 : bi_St) => ((¬ r1 = 0) → at_X12_look_20 X (d + 1) K E s1 (x0) ((0 : Int32)) ((0 : Int32))) ∧ (¬ (¬ r1 = 0) → K (0 : Int32) s1)) (fun _ _ => False)) : cI X (d + 1) 261 [.ref 77, .int x0] s K E := by
  show bi_T _ _ _ _ _
  refine bi_Tr 6 (s' := (8, [(0, .ref 77), (1, .int x0)], [.int (1 : Int32), .int x0, .ref 77], st_mm (st_p s 77 0 (0 : Int32)))) rfl ?_
  refine bi_TcI (as := [.ref 77, .int x0, .int (1 : Int32)]) rfl rfl ?_
  refine cI.mono h (fun r1 s1 h => ?_) (fun _ _ h => h.elim)
  refine bi_Tr 1 (s' := ((if ¬ r1 = 0 then 16 else 14), [(0, .ref 77), (1, .int x0)], [], st_mm s1)) rfl (bi_Tif (fun hc => ?_) (fun hc => ?_))
  · have h := h.1 hc
    refine bi_Tr 4 (s' := (20, [(3, .int (0 : Int32)), (2, .int (0 : Int32)), (0, .ref 77), (1, .int x0)], [], st_mm s1)) rfl ?_
    exact bi_Tww h rfl rfl ⟨rfl, rfl, rfl, rfl, trivial⟩
  · have h := h.2 hc
    refine bi_Tr 1 (s' := (15, [(0, .ref 77), (1, .int x0)], [.int (0 : Int32)], st_mm s1)) rfl ?_
    exact bi_Tv rfl rfl (Or.inl ⟨_, _, rfl, h⟩)
def at_X12_lapses_44 (X : bi_X) (d : Nat) (K : Int32 → bi_St → Prop) (E : Nat → bi_St → Prop) (s : bi_St) (y1 : Int32) (y2 : Int32) (y3 : Int32) (y4 : Int32) (y5 : Int32) : Prop := bi_T X d 262 (44, [(0, .ref 77), (1, .int y1), (2, .int y2), (3, .int y3), (4, .int y4), (5, .int y5)], [], st_mm s) (st_RI K E)
def at_X12_lapses_79 (X : bi_X) (d : Nat) (K : Int32 → bi_St → Prop) (E : Nat → bi_St → Prop) (s : bi_St) (y1 : Int32) (y2 : Int32) (y3 : Int32) (y4 : Int32) (y5 : Int32) (y6 : Int32) (y7 : Int32) : Prop := bi_T X d 262 (79, [(0, .ref 77), (1, .int y1), (2, .int y2), (3, .int y3), (4, .int y4), (5, .int y5), (6, .int y6), (7, .int y7)], [], st_mm s) (st_RI K E)
theorem go_X12_lapses_44 {X : bi_X} {d : Nat} {K : Int32 → bi_St → Prop} {E : Nat → bi_St → Prop}  {s : bi_St} {y1 : Int32} {y2 : Int32} {y3 : Int32} {y4 : Int32} {y5 : Int32}  (h : ((((1 : Int32) <<< ((st_g s 77 29) &&& 31)) ≤ y5) → K y4 s) ∧ (¬ (((1 : Int32) <<< ((st_g s 77 29) &&& 31)) ≤ y5) → bi_in (6 : Int32) 144 = true ∧ ((((y5 &&& ((st_g s 90 ((6 : Int32)).toNatClampNeg) ^^^ (-1 : Int32))) = 0) → at_X12_lapses_79 X (d + 1) K E s (y1) (y2) (y3) (y4) (y5) ((1 : Int32)) ((0 : Int32))) ∧ (¬ ((y5 &&& ((st_g s 90 ((6 : Int32)).toNatClampNeg) ^^^ (-1 : Int32))) = 0) → at_X12_lapses_44 X (d + 1) K E s (y1) (y2) (y3) (y4) ((y5 + (1 : Int32))))))) : at_X12_lapses_44 X (d + 1) K E s y1 y2 y3 y4 y5 := by
  show bi_T _ _ _ _ _
  refine bi_Tr 6 (s' := ((if ((1 : Int32) <<< ((st_g s 77 29) &&& 31)) ≤ y5 then 175 else 55), [(0, .ref 77), (1, .int y1), (2, .int y2), (3, .int y3), (4, .int y4), (5, .int y5)], [], st_mm s)) rfl (bi_Tif (fun hc => ?_) (fun hc => ?_))
  · have h := h.1 hc
    refine bi_Tr 1 (s' := (177, [(0, .ref 77), (1, .int y1), (2, .int y2), (3, .int y3), (4, .int y4), (5, .int y5)], [.int y4], st_mm s)) rfl ?_
    exact bi_Tv rfl rfl (Or.inl ⟨_, _, rfl, h⟩)
  · have h := h.2 hc
    refine bi_Tr 4 (s' := (63, [(0, .ref 77), (1, .int y1), (2, .int y2), (3, .int y3), (4, .int y4), (5, .int y5)], [.int (6 : Int32), .ref 90, .int y5], st_mm s)) rfl ?_
    obtain ⟨hi, h⟩ := h
    refine bi_Tial rfl rfl rfl hi ?_
    refine bi_Tr 4 (s' := ((if (y5 &&& ((st_g s 90 ((6 : Int32)).toNatClampNeg) ^^^ (-1 : Int32))) = 0 then 73 else 70), [(0, .ref 77), (1, .int y1), (2, .int y2), (3, .int y3), (4, .int y4), (5, .int y5)], [], st_mm s)) rfl (bi_Tif (fun hc => ?_) (fun hc => ?_))
    · have h := h.1 hc
      refine bi_Tr 4 (s' := (79, [(7, .int (0 : Int32)), (6, .int (1 : Int32)), (0, .ref 77), (1, .int y1), (2, .int y2), (3, .int y3), (4, .int y4), (5, .int y5)], [], st_mm s)) rfl ?_
      exact bi_Tww h rfl rfl ⟨rfl, rfl, rfl, rfl, rfl, rfl, rfl, rfl, trivial⟩
    · have h := h.2 hc
      refine bi_Tr 3 (s' := (44, [(5, .int (y5 + (1 : Int32))), (0, .ref 77), (1, .int y1), (2, .int y2), (3, .int y3), (4, .int y4)], [], st_mm s)) rfl ?_
      exact bi_Tww h rfl rfl ⟨rfl, rfl, rfl, rfl, rfl, rfl, trivial⟩
theorem go_X12_lapses_79 {X : bi_X} {d : Nat} {K : Int32 → bi_St → Prop} {E : Nat → bi_St → Prop}  {s : bi_St} {y1 : Int32} {y2 : Int32} {y3 : Int32} {y4 : Int32} {y5 : Int32} {y6 : Int32} {y7 : Int32}  (h : (((st_g s 77 29) ≤ y7) → cV X d 207 [.ref 77] s (fun (s5 : bi_St) => bi_in (78 : Int32) 144 = true ∧ (cI X d 216 [.ref 77, .int (72 : Int32), .int y1, .int y2] (st_p s5 90 ((78 : Int32)).toNatClampNeg y5) (fun (r6 : Int32) (s6 : bi_St) => ((r6 = 0) → at_X12_lapses_44 X (d + 1) K E s6 (y1) (y2) (y3) ((y4 + (0 : Int32))) ((y5 + (1 : Int32)))) ∧ (¬ (r6 = 0) → at_X12_lapses_44 X (d + 1) K E s6 (y1) (y2) (y3) ((y4 + y6)) ((y5 + (1 : Int32))))) (fun _ _ => False))) (fun _ _ => False)) ∧ (¬ ((st_g s 77 29) ≤ y7) → bi_in (6 : Int32) 144 = true ∧ (((¬ (((st_g s 90 ((6 : Int32)).toNatClampNeg) >>> (y7 &&& 31)) &&& (1 : Int32)) = (1 : Int32)) → at_X12_lapses_79 X (d + 1) K E s (y1) (y2) (y3) (y4) (y5) (y6) ((y7 + (1 : Int32)))) ∧ (¬ (¬ (((st_g s 90 ((6 : Int32)).toNatClampNeg) >>> (y7 &&& 31)) &&& (1 : Int32)) = (1 : Int32)) → ((¬ ((y5 >>> (y7 &&& 31)) &&& (1 : Int32)) = (1 : Int32)) → at_X12_lapses_79 X (d + 1) K E s (y1) (y2) (y3) (y4) (y5) ((y6 * y3)) ((y7 + (1 : Int32)))) ∧ (¬ (¬ ((y5 >>> (y7 &&& 31)) &&& (1 : Int32)) = (1 : Int32)) → at_X12_lapses_79 X (d + 1) K E s (y1) (y2) (y3) (y4) (y5) ((y6 * ((10 : Int32) - y3))) ((y7 + (1 : Int32)))))))) : at_X12_lapses_79 X (d + 1) K E s y1 y2 y3 y4 y5 y6 y7 := by
  show bi_T _ _ _ _ _
  refine bi_Tr 4 (s' := ((if (st_g s 77 29) ≤ y7 then 134 else 88), [(0, .ref 77), (1, .int y1), (2, .int y2), (3, .int y3), (4, .int y4), (5, .int y5), (6, .int y6), (7, .int y7)], [], st_mm s)) rfl (bi_Tif (fun hc => ?_) (fun hc => ?_))
  · have h := h.1 hc
    refine bi_Tr 1 (s' := (135, [(0, .ref 77), (1, .int y1), (2, .int y2), (3, .int y3), (4, .int y4), (5, .int y5), (6, .int y6), (7, .int y7)], [.ref 77], st_mm s)) rfl ?_
    refine bi_TcV (as := [.ref 77]) rfl rfl ?_
    refine cV.mono h (fun s5 h => ?_) (fun _ _ h => h.elim)
    refine bi_Tr 4 (s' := (146, [(0, .ref 77), (1, .int y1), (2, .int y2), (3, .int y3), (4, .int y4), (5, .int y5), (6, .int y6), (7, .int y7)], [.int y5, .int (78 : Int32), .ref 90], st_mm s5)) rfl ?_
    obtain ⟨hi, h⟩ := h
    refine bi_Tias rfl rfl hi ?_
    refine bi_Tr 5 (s' := (154, [(0, .ref 77), (1, .int y1), (2, .int y2), (3, .int y3), (4, .int y4), (5, .int y5), (6, .int y6), (7, .int y7)], [.int y2, .int y1, .int (72 : Int32), .ref 77, .int y4], st_mm (st_p s5 90 ((78 : Int32)).toNatClampNeg y5))) rfl ?_
    refine bi_TcI (as := [.ref 77, .int (72 : Int32), .int y1, .int y2]) rfl rfl ?_
    refine cI.mono h (fun r6 s6 h => ?_) (fun _ _ h => h.elim)
    refine bi_Tr 1 (s' := ((if r6 = 0 then 165 else 160), [(0, .ref 77), (1, .int y1), (2, .int y2), (3, .int y3), (4, .int y4), (5, .int y5), (6, .int y6), (7, .int y7)], [.int y4], st_mm s6)) rfl (bi_Tif (fun hc => ?_) (fun hc => ?_))
    · have h := h.1 hc
      refine bi_Tr 5 (s' := (44, [(5, .int (y5 + (1 : Int32))), (4, .int (y4 + (0 : Int32))), (0, .ref 77), (1, .int y1), (2, .int y2), (3, .int y3), (6, .int y6), (7, .int y7)], [], st_mm s6)) rfl ?_
      exact bi_Tww h rfl rfl ⟨rfl, rfl, rfl, rfl, rfl, rfl, trivial⟩
    · have h := h.2 hc
      refine bi_Tr 6 (s' := (44, [(5, .int (y5 + (1 : Int32))), (4, .int (y4 + y6)), (0, .ref 77), (1, .int y1), (2, .int y2), (3, .int y3), (6, .int y6), (7, .int y7)], [], st_mm s6)) rfl ?_
      exact bi_Tww h rfl rfl ⟨rfl, rfl, rfl, rfl, rfl, rfl, trivial⟩
  · have h := h.2 hc
    refine bi_Tr 3 (s' := (94, [(0, .ref 77), (1, .int y1), (2, .int y2), (3, .int y3), (4, .int y4), (5, .int y5), (6, .int y6), (7, .int y7)], [.int (6 : Int32), .ref 90], st_mm s)) rfl ?_
    obtain ⟨hi, h⟩ := h
    refine bi_Tial rfl rfl rfl hi ?_
    refine bi_Tr 6 (s' := ((if ¬ (((st_g s 90 ((6 : Int32)).toNatClampNeg) >>> (y7 &&& 31)) &&& (1 : Int32)) = (1 : Int32) then 128 else 104), [(0, .ref 77), (1, .int y1), (2, .int y2), (3, .int y3), (4, .int y4), (5, .int y5), (6, .int y6), (7, .int y7)], [], st_mm s)) rfl (bi_Tif (fun hc => ?_) (fun hc => ?_))
    · have h := h.1 hc
      refine bi_Tr 2 (s' := (79, [(7, .int (y7 + (1 : Int32))), (0, .ref 77), (1, .int y1), (2, .int y2), (3, .int y3), (4, .int y4), (5, .int y5), (6, .int y6)], [], st_mm s)) rfl ?_
      exact bi_Tww h rfl rfl ⟨rfl, rfl, rfl, rfl, rfl, rfl, rfl, rfl, trivial⟩
    · have h := h.2 hc
      refine bi_Tr 8 (s' := ((if ¬ ((y5 >>> (y7 &&& 31)) &&& (1 : Int32)) = (1 : Int32) then 124 else 117), [(0, .ref 77), (1, .int y1), (2, .int y2), (3, .int y3), (4, .int y4), (5, .int y5), (6, .int y6), (7, .int y7)], [.int y6], st_mm s)) rfl (bi_Tif (fun hc => ?_) (fun hc => ?_))
      · have h := h.1 hc
        refine bi_Tr 5 (s' := (79, [(7, .int (y7 + (1 : Int32))), (6, .int (y6 * y3)), (0, .ref 77), (1, .int y1), (2, .int y2), (3, .int y3), (4, .int y4), (5, .int y5)], [], st_mm s)) rfl ?_
        exact bi_Tww h rfl rfl ⟨rfl, rfl, rfl, rfl, rfl, rfl, rfl, rfl, trivial⟩
      · have h := h.2 hc
        refine bi_Tr 8 (s' := (79, [(7, .int (y7 + (1 : Int32))), (6, .int (y6 * ((10 : Int32) - y3))), (0, .ref 77), (1, .int y1), (2, .int y2), (3, .int y3), (4, .int y4), (5, .int y5)], [], st_mm s)) rfl ?_
        exact bi_Tww h rfl rfl ⟨rfl, rfl, rfl, rfl, rfl, rfl, rfl, rfl, trivial⟩
/-- PolicyRowsModel.lapses(III)I -/
theorem en_X12_lapses {X : bi_X} {d : Nat} {K : Int32 → bi_St → Prop} {E : Nat → bi_St → Prop} {s : bi_St} {x0 : Int32} {x1 : Int32} {x2 : Int32}  (h : cI X d 222 [.ref 77, .int x0] (st_p s 77 0 (0 : Int32)) (fun (r1 : Int32) (s1 : bi_St) => ((r1 = 0) → K (0 : Int32) s1) ∧ (¬ (r1 = 0) → cI X d 223 [.ref 77, .int x1] s1 (fun (r2 : Int32) (s2 : bi_St) => ((r2 = 0) → K (0 : Int32) s2) ∧ (¬ (r2 = 0) → cI X d 164 [.int x2, .int (0 : Int32), .int (10 : Int32)] s2 (fun (r3 : Int32) (s3 : bi_St) => cI X d 163 [.ref 77, .int r3, .int (2 : Int32)] s3 (fun (r4 : Int32) (s4 : bi_St) => ((¬ r4 = 0) → at_X12_lapses_44 X (d + 1) K E s4 (x0) (x1) (x2) ((0 : Int32)) ((0 : Int32))) ∧ (¬ (¬ r4 = 0) → K (0 : Int32) s4)) (fun _ _ => False)) (fun _ _ => False))) (fun _ _ => False))) (fun _ _ => False)) : cI X (d + 1) 262 [.ref 77, .int x0, .int x1, .int x2] s K E := by
  show bi_T _ _ _ _ _
  refine bi_Tr 5 (s' := (7, [(0, .ref 77), (1, .int x0), (2, .int x1), (3, .int x2)], [.int x0, .ref 77], st_mm (st_p s 77 0 (0 : Int32)))) rfl ?_
  refine bi_TcI (as := [.ref 77, .int x0]) rfl rfl ?_
  refine cI.mono h (fun r1 s1 h => ?_) (fun _ _ h => h.elim)
  refine bi_Tr 1 (s' := ((if r1 = 0 then 36 else 13), [(0, .ref 77), (1, .int x0), (2, .int x1), (3, .int x2)], [], st_mm s1)) rfl (bi_Tif (fun hc => ?_) (fun hc => ?_))
  · have h := h.1 hc
    refine bi_Tr 1 (s' := (37, [(0, .ref 77), (1, .int x0), (2, .int x1), (3, .int x2)], [.int (0 : Int32)], st_mm s1)) rfl ?_
    exact bi_Tv rfl rfl (Or.inl ⟨_, _, rfl, h⟩)
  · have h := h.2 hc
    refine bi_Tr 2 (s' := (15, [(0, .ref 77), (1, .int x0), (2, .int x1), (3, .int x2)], [.int x1, .ref 77], st_mm s1)) rfl ?_
    refine bi_TcI (as := [.ref 77, .int x1]) rfl rfl ?_
    refine cI.mono h (fun r2 s2 h => ?_) (fun _ _ h => h.elim)
    refine bi_Tr 1 (s' := ((if r2 = 0 then 36 else 21), [(0, .ref 77), (1, .int x0), (2, .int x1), (3, .int x2)], [], st_mm s2)) rfl (bi_Tif (fun hc => ?_) (fun hc => ?_))
    · have h := h.1 hc
      refine bi_Tr 1 (s' := (37, [(0, .ref 77), (1, .int x0), (2, .int x1), (3, .int x2)], [.int (0 : Int32)], st_mm s2)) rfl ?_
      exact bi_Tv rfl rfl (Or.inl ⟨_, _, rfl, h⟩)
    · have h := h.2 hc
      refine bi_Tr 4 (s' := (26, [(0, .ref 77), (1, .int x0), (2, .int x1), (3, .int x2)], [.int (10 : Int32), .int (0 : Int32), .int x2, .ref 77], st_mm s2)) rfl ?_
      refine bi_TcI (as := [.int x2, .int (0 : Int32), .int (10 : Int32)]) rfl rfl ?_
      refine cI.mono h (fun r3 s3 h => ?_) (fun _ _ h => h.elim)
      refine bi_Tr 1 (s' := (30, [(0, .ref 77), (1, .int x0), (2, .int x1), (3, .int x2)], [.int (2 : Int32), .int r3, .ref 77], st_mm s3)) rfl ?_
      refine bi_TcI (as := [.ref 77, .int r3, .int (2 : Int32)]) rfl rfl ?_
      refine cI.mono h (fun r4 s4 h => ?_) (fun _ _ h => h.elim)
      refine bi_Tr 1 (s' := ((if ¬ r4 = 0 then 38 else 36), [(0, .ref 77), (1, .int x0), (2, .int x1), (3, .int x2)], [], st_mm s4)) rfl (bi_Tif (fun hc => ?_) (fun hc => ?_))
      · have h := h.1 hc
        refine bi_Tr 4 (s' := (44, [(5, .int (0 : Int32)), (4, .int (0 : Int32)), (0, .ref 77), (1, .int x0), (2, .int x1), (3, .int x2)], [], st_mm s4)) rfl ?_
        exact bi_Tww h rfl rfl ⟨rfl, rfl, rfl, rfl, rfl, rfl, trivial⟩
      · have h := h.2 hc
        refine bi_Tr 1 (s' := (37, [(0, .ref 77), (1, .int x0), (2, .int x1), (3, .int x2)], [.int (0 : Int32)], st_mm s4)) rfl ?_
        exact bi_Tv rfl rfl (Or.inl ⟨_, _, rfl, h⟩)
/-- PolicyRowsModel.draw(I)I -/
theorem en_X12_draw {X : bi_X} {d : Nat} {K : Int32 → bi_St → Prop} {E : Nat → bi_St → Prop} {s : bi_St} {x0 : Int32}  (h : ¬ x0 = 0 ∧ (K ((((st_g (st_p s 77 65 (((st_g s 77 65) * (1103515245 : Int32)) + (12345 : Int32))) 77 65) >>> ((16 : Int32) &&& 31)) &&& (32767 : Int32)) - (((st_g (st_p s 77 65 (((st_g s 77 65) * (1103515245 : Int32)) + (12345 : Int32))) 77 65) >>> ((16 : Int32) &&& 31)) &&& (32767 : Int32)) / x0 * x0) (st_p s 77 65 (((st_g s 77 65) * (1103515245 : Int32)) + (12345 : Int32))))) : cI X d 263 [.ref 77, .int x0] s K E := by
  show bi_T _ _ _ _ _
  refine bi_Tr 15 (s' := (28, [(0, .ref 77), (1, .int x0)], [.int x0, .int (((st_g (st_p s 77 65 (((st_g s 77 65) * (1103515245 : Int32)) + (12345 : Int32))) 77 65) >>> ((16 : Int32) &&& 31)) &&& (32767 : Int32))], st_mm (st_p s 77 65 (((st_g s 77 65) * (1103515245 : Int32)) + (12345 : Int32))))) rfl ?_
  obtain ⟨hi, h⟩ := h
  refine bi_Trem rfl hi ?_
  exact bi_Tv rfl rfl (Or.inl ⟨_, _, rfl, h⟩)
def at_X12_happens_185 (X : bi_X) (d : Nat) (K : Int32 → bi_St → Prop) (E : Nat → bi_St → Prop) (s : bi_St)  : Prop := bi_T X d 264 (185, [], [], st_mm s) (st_RI K E)
def at_X12_happens_21 (X : bi_X) (d : Nat) (K : Int32 → bi_St → Prop) (E : Nat → bi_St → Prop) (s : bi_St) (y1 : Int32) (y3 : Int32) : Prop := bi_T X d 264 (21, [(0, .ref 77), (1, .int y1), (3, .int y3)], [], st_mm s) (st_RI K E)
theorem go_X12_happens_185 {X : bi_X} {d : Nat} {K : Int32 → bi_St → Prop} {E : Nat → bi_St → Prop}  {s : bi_St}   (h : K (0 : Int32) s) : at_X12_happens_185 X (d + 1) K E s  := by
  show bi_T _ _ _ _ _
  refine bi_Tr 1 (s' := (186, [], [.int (0 : Int32)], st_mm s)) rfl ?_
  exact bi_Tv rfl rfl (Or.inl ⟨_, _, rfl, h⟩)
theorem go_X12_happens_21 {X : bi_X} {d : Nat} {K : Int32 → bi_St → Prop} {E : Nat → bi_St → Prop}  {s : bi_St} {y1 : Int32} {y3 : Int32}  (h : (((4 : Int32) ≤ y3) → bi_in (0 : Int32) 4 = true ∧ (bi_in (1 : Int32) 4 = true ∧ (bi_in (2 : Int32) 4 = true ∧ (bi_in (3 : Int32) 4 = true ∧ (cI X d 241 [.ref 77, .int (72 : Int32), .int y1, .int (st_g s 108 ((0 : Int32)).toNatClampNeg), .int (st_g s 108 ((1 : Int32)).toNatClampNeg), .int (st_g s 108 ((2 : Int32)).toNatClampNeg), .int (st_g s 108 ((3 : Int32)).toNatClampNeg)] s (fun (r10 : Int32) (s10 : bi_St) => bi_bool r10 = true ∧ (K r10 s10)) (fun _ _ => False)))))) ∧ (¬ ((4 : Int32) ≤ y3) → (((st_g s 77 28) ≤ y3) → bi_in y3 4 = true ∧ (at_X12_happens_21 X (d + 1) K E (st_p s 108 (y3).toNatClampNeg (0 : Int32)) (y1) ((y3 + (1 : Int32))))) ∧ (¬ ((st_g s 77 28) ≤ y3) → cI X d 263 [.ref 77, .int (10 : Int32)] s (fun (r11 : Int32) (s11 : bi_St) => bi_in y3 4 = true ∧ (at_X12_happens_21 X (d + 1) K E (st_p s11 108 (y3).toNatClampNeg r11) (y1) ((y3 + (1 : Int32))))) (fun _ _ => False)))) : at_X12_happens_21 X (d + 1) K E s y1 y3 := by
  show bi_T _ _ _ _ _
  refine bi_Tr 3 (s' := ((if (4 : Int32) ≤ y3 then 56 else 26), [(0, .ref 77), (1, .int y1), (3, .int y3)], [], st_mm s)) rfl (bi_Tif (fun hc => ?_) (fun hc => ?_))
  · have h := h.1 hc
    refine bi_Tr 6 (s' := (65, [(0, .ref 77), (1, .int y1), (3, .int y3)], [.int (0 : Int32), .ref 108, .int y1, .int (72 : Int32), .ref 77], st_mm s)) rfl ?_
    obtain ⟨hi, h⟩ := h
    refine bi_Tial rfl rfl rfl hi ?_
    refine bi_Tr 3 (s' := (71, [(0, .ref 77), (1, .int y1), (3, .int y3)], [.int (1 : Int32), .ref 108, .int (st_g s 108 ((0 : Int32)).toNatClampNeg), .int y1, .int (72 : Int32), .ref 77], st_mm s)) rfl ?_
    obtain ⟨hi, h⟩ := h
    refine bi_Tial rfl rfl rfl hi ?_
    refine bi_Tr 3 (s' := (77, [(0, .ref 77), (1, .int y1), (3, .int y3)], [.int (2 : Int32), .ref 108, .int (st_g s 108 ((1 : Int32)).toNatClampNeg), .int (st_g s 108 ((0 : Int32)).toNatClampNeg), .int y1, .int (72 : Int32), .ref 77], st_mm s)) rfl ?_
    obtain ⟨hi, h⟩ := h
    refine bi_Tial rfl rfl rfl hi ?_
    refine bi_Tr 3 (s' := (83, [(0, .ref 77), (1, .int y1), (3, .int y3)], [.int (3 : Int32), .ref 108, .int (st_g s 108 ((2 : Int32)).toNatClampNeg), .int (st_g s 108 ((1 : Int32)).toNatClampNeg), .int (st_g s 108 ((0 : Int32)).toNatClampNeg), .int y1, .int (72 : Int32), .ref 77], st_mm s)) rfl ?_
    obtain ⟨hi, h⟩ := h
    refine bi_Tial rfl rfl rfl hi ?_
    refine bi_TcI (as := [.ref 77, .int (72 : Int32), .int y1, .int (st_g s 108 ((0 : Int32)).toNatClampNeg), .int (st_g s 108 ((1 : Int32)).toNatClampNeg), .int (st_g s 108 ((2 : Int32)).toNatClampNeg), .int (st_g s 108 ((3 : Int32)).toNatClampNeg)]) rfl rfl ?_
    refine cI.mono h (fun r10 s10 h => ?_) (fun _ _ h => h.elim)
    obtain ⟨hi, h⟩ := h
    exact bi_Tv rfl hi (Or.inl ⟨_, _, rfl, h⟩)
  · have h := h.2 hc
    refine bi_Tr 7 (s' := ((if (st_g s 77 28) ≤ y3 then 48 else 39), [(0, .ref 77), (1, .int y1), (3, .int y3)], [.int y3, .ref 108], st_mm s)) rfl (bi_Tif (fun hc => ?_) (fun hc => ?_))
    · have h := h.1 hc
      refine bi_Tr 1 (s' := (49, [(0, .ref 77), (1, .int y1), (3, .int y3)], [.int (0 : Int32), .int y3, .ref 108], st_mm s)) rfl ?_
      obtain ⟨hi, h⟩ := h
      refine bi_Tias rfl rfl hi ?_
      refine bi_Tr 2 (s' := (21, [(3, .int (y3 + (1 : Int32))), (0, .ref 77), (1, .int y1)], [], st_mm (st_p s 108 (y3).toNatClampNeg (0 : Int32)))) rfl ?_
      exact bi_Tww h rfl rfl ⟨rfl, rfl, rfl, trivial⟩
    · have h := h.2 hc
      refine bi_Tr 2 (s' := (42, [(0, .ref 77), (1, .int y1), (3, .int y3)], [.int (10 : Int32), .ref 77, .int y3, .ref 108], st_mm s)) rfl ?_
      refine bi_TcI (as := [.ref 77, .int (10 : Int32)]) rfl rfl ?_
      refine cI.mono h (fun r11 s11 h => ?_) (fun _ _ h => h.elim)
      refine bi_Tr 1 (s' := (49, [(0, .ref 77), (1, .int y1), (3, .int y3)], [.int r11, .int y3, .ref 108], st_mm s11)) rfl ?_
      obtain ⟨hi, h⟩ := h
      refine bi_Tias rfl rfl hi ?_
      refine bi_Tr 2 (s' := (21, [(3, .int (y3 + (1 : Int32))), (0, .ref 77), (1, .int y1)], [], st_mm (st_p s11 108 (y3).toNatClampNeg r11))) rfl ?_
      exact bi_Tww h rfl rfl ⟨rfl, rfl, rfl, trivial⟩
/-- PolicyRowsModel.happens()Z -/
theorem en_X12_happens {X : bi_X} {d : Nat} {K : Int32 → bi_St → Prop} {E : Nat → bi_St → Prop} {s : bi_St}   (h : cI X d 263 [.ref 77, .int (st_g s 77 27)] s (fun (r1 : Int32) (s1 : bi_St) => cI X d 263 [.ref 77, .int (3 : Int32)] s1 (fun (r2 : Int32) (s2 : bi_St) => ((¬ r2 = 0) → bi_in (79 : Int32) 144 = true ∧ (((¬ (st_g s2 90 ((79 : Int32)).toNatClampNeg) = 0) → bi_in (79 : Int32) 144 = true ∧ (cI X d 263 [.ref 77, .int (st_g s2 90 ((79 : Int32)).toNatClampNeg)] s2 (fun (r3 : Int32) (s3 : bi_St) => ((¬ r2 = (2 : Int32)) → cI X d 263 [.ref 77, .int (st_g s3 77 28)] s3 (fun (r4 : Int32) (s4 : bi_St) => cI X d 263 [.ref 77, .int (10 : Int32)] s4 (fun (r5 : Int32) (s5 : bi_St) => cI X d 242 [.ref 77, .int (72 : Int32), .int r1, .int r3, .int (2 : Int32)] s5 (fun (r6 : Int32) (s6 : bi_St) => ((r6 = 0) → at_X12_happens_185 X (d + 1) K E s6) ∧ (¬ (r6 = 0) → cI X d 243 [.ref 77, .int (72 : Int32), .int r1, .int r3, .int r4, .int r5] s6 (fun (r7 : Int32) (s7 : bi_St) => ((¬ r7 = 0) → bi_in (((80 : Int32) + ((4 : Int32) * r3)) + r4) 144 = true ∧ (K (1 : Int32) (st_p s7 90 ((((80 : Int32) + ((4 : Int32) * r3)) + r4)).toNatClampNeg r5))) ∧ (¬ (¬ r7 = 0) → at_X12_happens_185 X (d + 1) K E s7)) (fun _ _ => False))) (fun _ _ => False)) (fun _ _ => False)) (fun _ _ => False)) ∧ (¬ (¬ r2 = (2 : Int32)) → cI X d 242 [.ref 77, .int (72 : Int32), .int r1, .int r3, .int (3 : Int32)] s3 (fun (r8 : Int32) (s8 : bi_St) => ((¬ r8 = 0) → cV X d 244 [.ref 77, .int (72 : Int32), .int r3] s8 (fun (s9 : bi_St) => K (1 : Int32) s9) (fun _ _ => False)) ∧ (¬ (¬ r8 = 0) → K (0 : Int32) s8)) (fun _ _ => False))) (fun _ _ => False))) ∧ (¬ (¬ (st_g s2 90 ((79 : Int32)).toNatClampNeg) = 0) → K (0 : Int32) s2))) ∧ (¬ (¬ r2 = 0) → at_X12_happens_21 X (d + 1) K E s2 (r1) ((0 : Int32)))) (fun _ _ => False)) (fun _ _ => False)) : cI X (d + 1) 264 [.ref 77] s K E := by
  show bi_T _ _ _ _ _
  refine bi_Tr 3 (s' := (5, [(0, .ref 77)], [.int (st_g s 77 27), .ref 77], st_mm s)) rfl ?_
  refine bi_TcI (as := [.ref 77, .int (st_g s 77 27)]) rfl rfl ?_
  refine cI.mono h (fun r1 s1 h => ?_) (fun _ _ h => h.elim)
  refine bi_Tr 3 (s' := (11, [(1, .int r1), (0, .ref 77)], [.int (3 : Int32), .ref 77], st_mm s1)) rfl ?_
  refine bi_TcI (as := [.ref 77, .int (3 : Int32)]) rfl rfl ?_
  refine cI.mono h (fun r2 s2 h => ?_) (fun _ _ h => h.elim)
  refine bi_Tr 3 (s' := ((if ¬ r2 = 0 then 88 else 19), [(2, .int r2), (1, .int r1), (0, .ref 77)], [], st_mm s2)) rfl (bi_Tif (fun hc => ?_) (fun hc => ?_))
  · have h := h.1 hc
    refine bi_Tr 3 (s' := (94, [(2, .int r2), (1, .int r1), (0, .ref 77)], [.int (79 : Int32), .ref 90], st_mm s2)) rfl ?_
    obtain ⟨hi, h⟩ := h
    refine bi_Tial rfl rfl rfl hi ?_
    refine bi_Tr 1 (s' := ((if ¬ (st_g s2 90 ((79 : Int32)).toNatClampNeg) = 0 then 100 else 98), [(2, .int r2), (1, .int r1), (0, .ref 77)], [], st_mm s2)) rfl (bi_Tif (fun hc => ?_) (fun hc => ?_))
    · have h := h.1 hc
      refine bi_Tr 4 (s' := (107, [(2, .int r2), (1, .int r1), (0, .ref 77)], [.int (79 : Int32), .ref 90, .ref 77], st_mm s2)) rfl ?_
      obtain ⟨hi, h⟩ := h
      refine bi_Tial rfl rfl rfl hi ?_
      refine bi_TcI (as := [.ref 77, .int (st_g s2 90 ((79 : Int32)).toNatClampNeg)]) rfl rfl ?_
      refine cI.mono h (fun r3 s3 h => ?_) (fun _ _ h => h.elim)
      refine bi_Tr 4 (s' := ((if ¬ r2 = (2 : Int32) then 140 else 117), [(3, .int r3), (2, .int r2), (1, .int r1), (0, .ref 77)], [], st_mm s3)) rfl (bi_Tif (fun hc => ?_) (fun hc => ?_))
      · have h := h.1 hc
        refine bi_Tr 3 (s' := (145, [(3, .int r3), (2, .int r2), (1, .int r1), (0, .ref 77)], [.int (st_g s3 77 28), .ref 77], st_mm s3)) rfl ?_
        refine bi_TcI (as := [.ref 77, .int (st_g s3 77 28)]) rfl rfl ?_
        refine cI.mono h (fun r4 s4 h => ?_) (fun _ _ h => h.elim)
        refine bi_Tr 3 (s' := (153, [(4, .int r4), (3, .int r3), (2, .int r2), (1, .int r1), (0, .ref 77)], [.int (10 : Int32), .ref 77], st_mm s4)) rfl ?_
        refine bi_TcI (as := [.ref 77, .int (10 : Int32)]) rfl rfl ?_
        refine cI.mono h (fun r5 s5 h => ?_) (fun _ _ h => h.elim)
        refine bi_Tr 6 (s' := (164, [(5, .int r5), (4, .int r4), (3, .int r3), (2, .int r2), (1, .int r1), (0, .ref 77)], [.int (2 : Int32), .int r3, .int r1, .int (72 : Int32), .ref 77], st_mm s5)) rfl ?_
        refine bi_TcI (as := [.ref 77, .int (72 : Int32), .int r1, .int r3, .int (2 : Int32)]) rfl rfl ?_
        refine cI.mono h (fun r6 s6 h => ?_) (fun _ _ h => h.elim)
        refine bi_Tr 1 (s' := ((if r6 = 0 then 185 else 170), [(5, .int r5), (4, .int r4), (3, .int r3), (2, .int r2), (1, .int r1), (0, .ref 77)], [], st_mm s6)) rfl (bi_Tif (fun hc => ?_) (fun hc => ?_))
        · have h := h.1 hc
          exact bi_Tww h rfl rfl trivial
        · have h := h.2 hc
          refine bi_Tr 6 (s' := (179, [(5, .int r5), (4, .int r4), (3, .int r3), (2, .int r2), (1, .int r1), (0, .ref 77)], [.int r5, .int r4, .int r3, .int r1, .int (72 : Int32), .ref 77], st_mm s6)) rfl ?_
          refine bi_TcI (as := [.ref 77, .int (72 : Int32), .int r1, .int r3, .int r4, .int r5]) rfl rfl ?_
          refine cI.mono h (fun r7 s7 h => ?_) (fun _ _ h => h.elim)
          refine bi_Tr 1 (s' := ((if ¬ r7 = 0 then 187 else 185), [(5, .int r5), (4, .int r4), (3, .int r3), (2, .int r2), (1, .int r1), (0, .ref 77)], [], st_mm s7)) rfl (bi_Tif (fun hc => ?_) (fun hc => ?_))
          · have h := h.1 hc
            refine bi_Tr 10 (s' := (202, [(5, .int r5), (4, .int r4), (3, .int r3), (2, .int r2), (1, .int r1), (0, .ref 77)], [.int r5, .int (((80 : Int32) + ((4 : Int32) * r3)) + r4), .ref 90], st_mm s7)) rfl ?_
            obtain ⟨hi, h⟩ := h
            refine bi_Tias rfl rfl hi ?_
            refine bi_Tr 1 (s' := (204, [(5, .int r5), (4, .int r4), (3, .int r3), (2, .int r2), (1, .int r1), (0, .ref 77)], [.int (1 : Int32)], st_mm (st_p s7 90 ((((80 : Int32) + ((4 : Int32) * r3)) + r4)).toNatClampNeg r5))) rfl ?_
            exact bi_Tv rfl rfl (Or.inl ⟨_, _, rfl, h⟩)
          · have h := h.2 hc
            exact bi_Tww h rfl rfl trivial
      · have h := h.2 hc
        refine bi_Tr 5 (s' := (123, [(3, .int r3), (2, .int r2), (1, .int r1), (0, .ref 77)], [.int (3 : Int32), .int r3, .int r1, .int (72 : Int32), .ref 77], st_mm s3)) rfl ?_
        refine bi_TcI (as := [.ref 77, .int (72 : Int32), .int r1, .int r3, .int (3 : Int32)]) rfl rfl ?_
        refine cI.mono h (fun r8 s8 h => ?_) (fun _ _ h => h.elim)
        refine bi_Tr 1 (s' := ((if ¬ r8 = 0 then 131 else 129), [(3, .int r3), (2, .int r2), (1, .int r1), (0, .ref 77)], [], st_mm s8)) rfl (bi_Tif (fun hc => ?_) (fun hc => ?_))
        · have h := h.1 hc
          refine bi_Tr 3 (s' := (135, [(3, .int r3), (2, .int r2), (1, .int r1), (0, .ref 77)], [.int r3, .int (72 : Int32), .ref 77], st_mm s8)) rfl ?_
          refine bi_TcV (as := [.ref 77, .int (72 : Int32), .int r3]) rfl rfl ?_
          refine cV.mono h (fun s9 h => ?_) (fun _ _ h => h.elim)
          refine bi_Tr 1 (s' := (139, [(3, .int r3), (2, .int r2), (1, .int r1), (0, .ref 77)], [.int (1 : Int32)], st_mm s9)) rfl ?_
          exact bi_Tv rfl rfl (Or.inl ⟨_, _, rfl, h⟩)
        · have h := h.2 hc
          refine bi_Tr 1 (s' := (130, [(3, .int r3), (2, .int r2), (1, .int r1), (0, .ref 77)], [.int (0 : Int32)], st_mm s8)) rfl ?_
          exact bi_Tv rfl rfl (Or.inl ⟨_, _, rfl, h⟩)
    · have h := h.2 hc
      refine bi_Tr 1 (s' := (99, [(2, .int r2), (1, .int r1), (0, .ref 77)], [.int (0 : Int32)], st_mm s2)) rfl ?_
      exact bi_Tv rfl rfl (Or.inl ⟨_, _, rfl, h⟩)
  · have h := h.2 hc
    refine bi_Tr 2 (s' := (21, [(3, .int (0 : Int32)), (2, .int r2), (1, .int r1), (0, .ref 77)], [], st_mm s2)) rfl ?_
    exact bi_Tww h rfl rfl ⟨rfl, rfl, rfl, trivial⟩
def at_X12_years_46 (X : bi_X) (d : Nat) (K : Int32 → bi_St → Prop) (E : Nat → bi_St → Prop) (s : bi_St) (y2 : Int32) (y3 : Int32) (y4 : Int32) (y5 : Int32) : Prop := bi_T X d 265 (46, [(0, .ref 77), (2, .int y2), (3, .int y3), (4, .int y4), (5, .int y5)], [], st_mm s) (st_RI K E)
theorem go_X12_years_46 {X : bi_X} {d : Nat} {K : Int32 → bi_St → Prop} {E : Nat → bi_St → Prop}  {s : bi_St} {y2 : Int32} {y3 : Int32} {y4 : Int32} {y5 : Int32}  (h : ((y2 ≤ y5) → ((¬ y3 = 0) → ((¬ y3 = (1 : Int32)) → cI X d 218 [.ref 77, .int (72 : Int32)] s (fun (r5 : Int32) (s5 : bi_St) => K r5 s5) (fun _ _ => False)) ∧ (¬ (¬ y3 = (1 : Int32)) → bi_in (79 : Int32) 144 = true ∧ (K (st_g s 90 ((79 : Int32)).toNatClampNeg) s))) ∧ (¬ (¬ y3 = 0) → K y4 s)) ∧ (¬ (y2 ≤ y5) → (((st_g s 77 27) ≤ 0) → ((¬ y3 = 0) → ((¬ y3 = (1 : Int32)) → cI X d 218 [.ref 77, .int (72 : Int32)] s (fun (r6 : Int32) (s6 : bi_St) => K r6 s6) (fun _ _ => False)) ∧ (¬ (¬ y3 = (1 : Int32)) → bi_in (79 : Int32) 144 = true ∧ (K (st_g s 90 ((79 : Int32)).toNatClampNeg) s))) ∧ (¬ (¬ y3 = 0) → K y4 s)) ∧ (¬ ((st_g s 77 27) ≤ 0) → cI X d 264 [.ref 77] s (fun (r7 : Int32) (s7 : bi_St) => ((r7 = 0) → at_X12_years_46 X (d + 1) K E s7 (y2) (y3) ((y4 + (0 : Int32))) ((y5 + (1 : Int32)))) ∧ (¬ (r7 = 0) → at_X12_years_46 X (d + 1) K E s7 (y2) (y3) ((y4 + (1 : Int32))) ((y5 + (1 : Int32))))) (fun _ _ => False)))) : at_X12_years_46 X (d + 1) K E s y2 y3 y4 y5 := by
  show bi_T _ _ _ _ _
  refine bi_Tr 3 (s' := ((if y2 ≤ y5 then 82 else 52), [(0, .ref 77), (2, .int y2), (3, .int y3), (4, .int y4), (5, .int y5)], [], st_mm s)) rfl (bi_Tif (fun hc => ?_) (fun hc => ?_))
  · have h := h.1 hc
    refine bi_Tr 2 (s' := ((if ¬ y3 = 0 then 91 else 86), [(0, .ref 77), (2, .int y2), (3, .int y3), (4, .int y4), (5, .int y5)], [], st_mm s)) rfl (bi_Tif (fun hc => ?_) (fun hc => ?_))
    · have h := h.1 hc
      refine bi_Tr 3 (s' := ((if ¬ y3 = (1 : Int32) then 106 else 96), [(0, .ref 77), (2, .int y2), (3, .int y3), (4, .int y4), (5, .int y5)], [], st_mm s)) rfl (bi_Tif (fun hc => ?_) (fun hc => ?_))
      · have h := h.1 hc
        refine bi_Tr 2 (s' := (109, [(0, .ref 77), (2, .int y2), (3, .int y3), (4, .int y4), (5, .int y5)], [.int (72 : Int32), .ref 77], st_mm s)) rfl ?_
        refine bi_TcI (as := [.ref 77, .int (72 : Int32)]) rfl rfl ?_
        refine cI.mono h (fun r5 s5 h => ?_) (fun _ _ h => h.elim)
        exact bi_Tv rfl rfl (Or.inl ⟨_, _, rfl, h⟩)
      · have h := h.2 hc
        refine bi_Tr 3 (s' := (102, [(0, .ref 77), (2, .int y2), (3, .int y3), (4, .int y4), (5, .int y5)], [.int (79 : Int32), .ref 90], st_mm s)) rfl ?_
        obtain ⟨hi, h⟩ := h
        refine bi_Tial rfl rfl rfl hi ?_
        refine bi_Tr 1 (s' := (112, [(0, .ref 77), (2, .int y2), (3, .int y3), (4, .int y4), (5, .int y5)], [.int (st_g s 90 ((79 : Int32)).toNatClampNeg)], st_mm s)) rfl ?_
        exact bi_Tv rfl rfl (Or.inl ⟨_, _, rfl, h⟩)
    · have h := h.2 hc
      refine bi_Tr 2 (s' := (112, [(0, .ref 77), (2, .int y2), (3, .int y3), (4, .int y4), (5, .int y5)], [.int y4], st_mm s)) rfl ?_
      exact bi_Tv rfl rfl (Or.inl ⟨_, _, rfl, h⟩)
  · have h := h.2 hc
    refine bi_Tr 3 (s' := ((if (st_g s 77 27) ≤ 0 then 82 else 59), [(0, .ref 77), (2, .int y2), (3, .int y3), (4, .int y4), (5, .int y5)], [], st_mm s)) rfl (bi_Tif (fun hc => ?_) (fun hc => ?_))
    · have h := h.1 hc
      refine bi_Tr 2 (s' := ((if ¬ y3 = 0 then 91 else 86), [(0, .ref 77), (2, .int y2), (3, .int y3), (4, .int y4), (5, .int y5)], [], st_mm s)) rfl (bi_Tif (fun hc => ?_) (fun hc => ?_))
      · have h := h.1 hc
        refine bi_Tr 3 (s' := ((if ¬ y3 = (1 : Int32) then 106 else 96), [(0, .ref 77), (2, .int y2), (3, .int y3), (4, .int y4), (5, .int y5)], [], st_mm s)) rfl (bi_Tif (fun hc => ?_) (fun hc => ?_))
        · have h := h.1 hc
          refine bi_Tr 2 (s' := (109, [(0, .ref 77), (2, .int y2), (3, .int y3), (4, .int y4), (5, .int y5)], [.int (72 : Int32), .ref 77], st_mm s)) rfl ?_
          refine bi_TcI (as := [.ref 77, .int (72 : Int32)]) rfl rfl ?_
          refine cI.mono h (fun r6 s6 h => ?_) (fun _ _ h => h.elim)
          exact bi_Tv rfl rfl (Or.inl ⟨_, _, rfl, h⟩)
        · have h := h.2 hc
          refine bi_Tr 3 (s' := (102, [(0, .ref 77), (2, .int y2), (3, .int y3), (4, .int y4), (5, .int y5)], [.int (79 : Int32), .ref 90], st_mm s)) rfl ?_
          obtain ⟨hi, h⟩ := h
          refine bi_Tial rfl rfl rfl hi ?_
          refine bi_Tr 1 (s' := (112, [(0, .ref 77), (2, .int y2), (3, .int y3), (4, .int y4), (5, .int y5)], [.int (st_g s 90 ((79 : Int32)).toNatClampNeg)], st_mm s)) rfl ?_
          exact bi_Tv rfl rfl (Or.inl ⟨_, _, rfl, h⟩)
      · have h := h.2 hc
        refine bi_Tr 2 (s' := (112, [(0, .ref 77), (2, .int y2), (3, .int y3), (4, .int y4), (5, .int y5)], [.int y4], st_mm s)) rfl ?_
        exact bi_Tv rfl rfl (Or.inl ⟨_, _, rfl, h⟩)
    · have h := h.2 hc
      refine bi_Tr 2 (s' := (62, [(0, .ref 77), (2, .int y2), (3, .int y3), (4, .int y4), (5, .int y5)], [.ref 77, .int y4], st_mm s)) rfl ?_
      refine bi_TcI (as := [.ref 77]) rfl rfl ?_
      refine cI.mono h (fun r7 s7 h => ?_) (fun _ _ h => h.elim)
      refine bi_Tr 1 (s' := ((if r7 = 0 then 72 else 68), [(0, .ref 77), (2, .int y2), (3, .int y3), (4, .int y4), (5, .int y5)], [.int y4], st_mm s7)) rfl (bi_Tif (fun hc => ?_) (fun hc => ?_))
      · have h := h.1 hc
        refine bi_Tr 5 (s' := (46, [(5, .int (y5 + (1 : Int32))), (4, .int (y4 + (0 : Int32))), (0, .ref 77), (2, .int y2), (3, .int y3)], [], st_mm s7)) rfl ?_
        exact bi_Tww h rfl rfl ⟨rfl, rfl, rfl, rfl, rfl, trivial⟩
      · have h := h.2 hc
        refine bi_Tr 6 (s' := (46, [(5, .int (y5 + (1 : Int32))), (4, .int (y4 + (1 : Int32))), (0, .ref 77), (2, .int y2), (3, .int y3)], [], st_mm s7)) rfl ?_
        exact bi_Tww h rfl rfl ⟨rfl, rfl, rfl, rfl, rfl, trivial⟩
/-- PolicyRowsModel.years(III)I -/
theorem en_X12_years {X : bi_X} {d : Nat} {K : Int32 → bi_St → Prop} {E : Nat → bi_St → Prop} {s : bi_St} {x0 : Int32} {x1 : Int32} {x2 : Int32}  (h : cI X d 224 [.ref 77, .int x2, .int (2 : Int32)] (st_p s 77 0 (0 : Int32)) (fun (r1 : Int32) (s1 : bi_St) => ((r1 = 0) → K (0 : Int32) s1) ∧ (¬ (r1 = 0) → cI X d 164 [.int x1, .int (0 : Int32), .int (60 : Int32)] s1 (fun (r2 : Int32) (s2 : bi_St) => cI X d 163 [.ref 77, .int r2, .int (2 : Int32)] s2 (fun (r3 : Int32) (s3 : bi_St) => ((¬ r3 = 0) → cV X d 207 [.ref 77] s3 (fun (s4 : bi_St) => at_X12_years_46 X (d + 1) K E (st_p s4 77 65 x0) (x1) (x2) ((0 : Int32)) ((0 : Int32))) (fun _ _ => False)) ∧ (¬ (¬ r3 = 0) → K (0 : Int32) s3)) (fun _ _ => False)) (fun _ _ => False))) (fun _ _ => False)) : cI X (d + 1) 265 [.ref 77, .int x0, .int x1, .int x2] s K E := by
  show bi_T _ _ _ _ _
  refine bi_Tr 6 (s' := (8, [(0, .ref 77), (1, .int x0), (2, .int x1), (3, .int x2)], [.int (2 : Int32), .int x2, .ref 77], st_mm (st_p s 77 0 (0 : Int32)))) rfl ?_
  refine bi_TcI (as := [.ref 77, .int x2, .int (2 : Int32)]) rfl rfl ?_
  refine cI.mono h (fun r1 s1 h => ?_) (fun _ _ h => h.elim)
  refine bi_Tr 1 (s' := ((if r1 = 0 then 29 else 14), [(0, .ref 77), (1, .int x0), (2, .int x1), (3, .int x2)], [], st_mm s1)) rfl (bi_Tif (fun hc => ?_) (fun hc => ?_))
  · have h := h.1 hc
    refine bi_Tr 1 (s' := (30, [(0, .ref 77), (1, .int x0), (2, .int x1), (3, .int x2)], [.int (0 : Int32)], st_mm s1)) rfl ?_
    exact bi_Tv rfl rfl (Or.inl ⟨_, _, rfl, h⟩)
  · have h := h.2 hc
    refine bi_Tr 4 (s' := (19, [(0, .ref 77), (1, .int x0), (2, .int x1), (3, .int x2)], [.int (60 : Int32), .int (0 : Int32), .int x1, .ref 77], st_mm s1)) rfl ?_
    refine bi_TcI (as := [.int x1, .int (0 : Int32), .int (60 : Int32)]) rfl rfl ?_
    refine cI.mono h (fun r2 s2 h => ?_) (fun _ _ h => h.elim)
    refine bi_Tr 1 (s' := (23, [(0, .ref 77), (1, .int x0), (2, .int x1), (3, .int x2)], [.int (2 : Int32), .int r2, .ref 77], st_mm s2)) rfl ?_
    refine bi_TcI (as := [.ref 77, .int r2, .int (2 : Int32)]) rfl rfl ?_
    refine cI.mono h (fun r3 s3 h => ?_) (fun _ _ h => h.elim)
    refine bi_Tr 1 (s' := ((if ¬ r3 = 0 then 31 else 29), [(0, .ref 77), (1, .int x0), (2, .int x1), (3, .int x2)], [], st_mm s3)) rfl (bi_Tif (fun hc => ?_) (fun hc => ?_))
    · have h := h.1 hc
      refine bi_Tr 1 (s' := (32, [(0, .ref 77), (1, .int x0), (2, .int x1), (3, .int x2)], [.ref 77], st_mm s3)) rfl ?_
      refine bi_TcV (as := [.ref 77]) rfl rfl ?_
      refine cV.mono h (fun s4 h => ?_) (fun _ _ h => h.elim)
      refine bi_Tr 7 (s' := (46, [(5, .int (0 : Int32)), (4, .int (0 : Int32)), (0, .ref 77), (1, .int x0), (2, .int x1), (3, .int x2)], [], st_mm (st_p s4 77 65 x0))) rfl ?_
      exact bi_Tww h rfl rfl ⟨rfl, rfl, rfl, rfl, rfl, trivial⟩
    · have h := h.2 hc
      refine bi_Tr 1 (s' := (30, [(0, .ref 77), (1, .int x0), (2, .int x1), (3, .int x2)], [.int (0 : Int32)], st_mm s3)) rfl ?_
      exact bi_Tv rfl rfl (Or.inl ⟨_, _, rfl, h⟩)
def at_X12_image_28 (X : bi_X) (d : Nat) (K : bi_St → Prop) (E : Nat → bi_St → Prop) (s : bi_St) (y1 : Int32) : Prop := bi_T X d 266 (28, [(0, .ref 77), (1, .int y1)], [], st_mm s) (st_RV K E)
theorem go_X12_image_28 {X : bi_X} {d : Nat} {K : bi_St → Prop} {E : Nat → bi_St → Prop}  {s : bi_St} {y1 : Int32}  (h : (((72 : Int32) ≤ y1) → cV X d 165 [.ref 77, .ref 91, .ref 110] s (fun (s1 : bi_St) => cV X d 165 [.ref 77, .ref 106, .ref 111] s1 (fun (s2 : bi_St) => K s2) (fun _ _ => False)) (fun _ _ => False)) ∧ (¬ ((72 : Int32) ≤ y1) → bi_in y1 144 = true ∧ (bi_in y1 72 = true ∧ (at_X12_image_28 X (d + 1) K E (st_p s 109 (y1).toNatClampNeg (st_g s 90 (y1).toNatClampNeg)) ((y1 + (1 : Int32))))))) : at_X12_image_28 X (d + 1) K E s y1 := by
  show bi_T _ _ _ _ _
  refine bi_Tr 3 (s' := ((if (72 : Int32) ≤ y1 then 52 else 34), [(0, .ref 77), (1, .int y1)], [], st_mm s)) rfl (bi_Tif (fun hc => ?_) (fun hc => ?_))
  · have h := h.1 hc
    refine bi_Tr 5 (s' := (61, [(0, .ref 77), (1, .int y1)], [.ref 110, .ref 91, .ref 77], st_mm s)) rfl ?_
    refine bi_TcV (as := [.ref 77, .ref 91, .ref 110]) rfl rfl ?_
    refine cV.mono h (fun s1 h => ?_) (fun _ _ h => h.elim)
    refine bi_Tr 5 (s' := (73, [(0, .ref 77), (1, .int y1)], [.ref 111, .ref 106, .ref 77], st_mm s1)) rfl ?_
    refine bi_TcV (as := [.ref 77, .ref 106, .ref 111]) rfl rfl ?_
    refine cV.mono h (fun s2 h => ?_) (fun _ _ h => h.elim)
    exact bi_Tv rfl rfl (Or.inl ⟨_, rfl, h⟩)
  · have h := h.2 hc
    refine bi_Tr 6 (s' := (44, [(0, .ref 77), (1, .int y1)], [.int y1, .ref 90, .int y1, .ref 109], st_mm s)) rfl ?_
    obtain ⟨hi, h⟩ := h
    refine bi_Tial rfl rfl rfl hi ?_
    obtain ⟨hi, h⟩ := h
    refine bi_Tias rfl rfl hi ?_
    refine bi_Tr 2 (s' := (28, [(1, .int (y1 + (1 : Int32))), (0, .ref 77)], [], st_mm (st_p s 109 (y1).toNatClampNeg (st_g s 90 (y1).toNatClampNeg)))) rfl ?_
    exact bi_Tww h rfl rfl ⟨rfl, rfl, trivial⟩
/-- PolicyRowsModel.image()V -/
theorem en_X12_image {X : bi_X} {d : Nat} {K : bi_St → Prop} {E : Nat → bi_St → Prop} {s : bi_St}   (h : at_X12_image_28 X (d + 1) K E (st_p (st_p (st_p (st_p s 77 0 (0 : Int32)) 77 67 (1 : Int32)) 77 68 (st_g (st_p (st_p s 77 0 (0 : Int32)) 77 67 (1 : Int32)) 77 40)) 77 69 (st_g (st_p (st_p (st_p s 77 0 (0 : Int32)) 77 67 (1 : Int32)) 77 68 (st_g (st_p (st_p s 77 0 (0 : Int32)) 77 67 (1 : Int32)) 77 40)) 77 62)) ((0 : Int32))) : cV X (d + 1) 266 [.ref 77] s K E := by
  show bi_T _ _ _ _ _
  refine bi_Tr 5 (s' := (7, [(0, .ref 77)], [.int (1 : Int32), .ref 77], st_mm (st_p s 77 0 (0 : Int32)))) rfl ?_
  refine bi_Tpz rfl rfl rfl rfl rfl rfl ?_
  refine bi_Tr 10 (s' := (28, [(1, .int (0 : Int32)), (0, .ref 77)], [], st_mm (st_p (st_p (st_p (st_p s 77 0 (0 : Int32)) 77 67 (1 : Int32)) 77 68 (st_g (st_p (st_p s 77 0 (0 : Int32)) 77 67 (1 : Int32)) 77 40)) 77 69 (st_g (st_p (st_p (st_p s 77 0 (0 : Int32)) 77 67 (1 : Int32)) 77 68 (st_g (st_p (st_p s 77 0 (0 : Int32)) 77 67 (1 : Int32)) 77 40)) 77 62)))) rfl ?_
  exact bi_Tww h rfl rfl ⟨rfl, rfl, trivial⟩
def at_X12_restore_32 (X : bi_X) (d : Nat) (K : Int32 → bi_St → Prop) (E : Nat → bi_St → Prop) (s : bi_St) (y1 : Int32) : Prop := bi_T X d 267 (32, [(0, .ref 77), (1, .int y1)], [], st_mm s) (st_RI K E)
theorem go_X12_restore_32 {X : bi_X} {d : Nat} {K : Int32 → bi_St → Prop} {E : Nat → bi_St → Prop}  {s : bi_St} {y1 : Int32}  (h : (((72 : Int32) ≤ y1) → cV X d 165 [.ref 77, .ref 110, .ref 91] s (fun (s1 : bi_St) => cV X d 165 [.ref 77, .ref 111, .ref 106] s1 (fun (s2 : bi_St) => K (1 : Int32) s2) (fun _ _ => False)) (fun _ _ => False)) ∧ (¬ ((72 : Int32) ≤ y1) → bi_in y1 72 = true ∧ (bi_in y1 144 = true ∧ (at_X12_restore_32 X (d + 1) K E (st_p s 90 (y1).toNatClampNeg (st_g s 109 (y1).toNatClampNeg)) ((y1 + (1 : Int32))))))) : at_X12_restore_32 X (d + 1) K E s y1 := by
  show bi_T _ _ _ _ _
  refine bi_Tr 3 (s' := ((if (72 : Int32) ≤ y1 then 56 else 38), [(0, .ref 77), (1, .int y1)], [], st_mm s)) rfl (bi_Tif (fun hc => ?_) (fun hc => ?_))
  · have h := h.1 hc
    refine bi_Tr 5 (s' := (65, [(0, .ref 77), (1, .int y1)], [.ref 91, .ref 110, .ref 77], st_mm s)) rfl ?_
    refine bi_TcV (as := [.ref 77, .ref 110, .ref 91]) rfl rfl ?_
    refine cV.mono h (fun s1 h => ?_) (fun _ _ h => h.elim)
    refine bi_Tr 5 (s' := (77, [(0, .ref 77), (1, .int y1)], [.ref 106, .ref 111, .ref 77], st_mm s1)) rfl ?_
    refine bi_TcV (as := [.ref 77, .ref 111, .ref 106]) rfl rfl ?_
    refine cV.mono h (fun s2 h => ?_) (fun _ _ h => h.elim)
    refine bi_Tr 1 (s' := (81, [(0, .ref 77), (1, .int y1)], [.int (1 : Int32)], st_mm s2)) rfl ?_
    exact bi_Tv rfl rfl (Or.inl ⟨_, _, rfl, h⟩)
  · have h := h.2 hc
    refine bi_Tr 6 (s' := (48, [(0, .ref 77), (1, .int y1)], [.int y1, .ref 109, .int y1, .ref 90], st_mm s)) rfl ?_
    obtain ⟨hi, h⟩ := h
    refine bi_Tial rfl rfl rfl hi ?_
    obtain ⟨hi, h⟩ := h
    refine bi_Tias rfl rfl hi ?_
    refine bi_Tr 2 (s' := (32, [(1, .int (y1 + (1 : Int32))), (0, .ref 77)], [], st_mm (st_p s 90 (y1).toNatClampNeg (st_g s 109 (y1).toNatClampNeg)))) rfl ?_
    exact bi_Tww h rfl rfl ⟨rfl, rfl, trivial⟩
/-- PolicyRowsModel.restore()Z -/
theorem en_X12_restore {X : bi_X} {d : Nat} {K : Int32 → bi_St → Prop} {E : Nat → bi_St → Prop} {s : bi_St}   (h : ((¬ (st_g (st_p s 77 0 (0 : Int32)) 77 67) = 0) → at_X12_restore_32 X (d + 1) K E (st_p (st_p (st_p s 77 0 (0 : Int32)) 77 40 (st_g (st_p s 77 0 (0 : Int32)) 77 68)) 77 62 (st_g (st_p (st_p s 77 0 (0 : Int32)) 77 40 (st_g (st_p s 77 0 (0 : Int32)) 77 68)) 77 69)) ((0 : Int32))) ∧ (¬ (¬ (st_g (st_p s 77 0 (0 : Int32)) 77 67) = 0) → K (0 : Int32) (st_p s 77 0 (0 : Int32)))) : cI X (d + 1) 267 [.ref 77] s K E := by
  show bi_T _ _ _ _ _
  refine bi_Tr 6 (s' := ((if ¬ (st_g (st_p s 77 0 (0 : Int32)) 77 67) = 0 then 14 else 12), [(0, .ref 77)], [], st_mm (st_p s 77 0 (0 : Int32)))) rfl (bi_Tif (fun hc => ?_) (fun hc => ?_))
  · have h := h.1 hc
    refine bi_Tr 10 (s' := (32, [(1, .int (0 : Int32)), (0, .ref 77)], [], st_mm (st_p (st_p (st_p s 77 0 (0 : Int32)) 77 40 (st_g (st_p s 77 0 (0 : Int32)) 77 68)) 77 62 (st_g (st_p (st_p s 77 0 (0 : Int32)) 77 40 (st_g (st_p s 77 0 (0 : Int32)) 77 68)) 77 69)))) rfl ?_
    exact bi_Tww h rfl rfl ⟨rfl, rfl, trivial⟩
  · have h := h.2 hc
    refine bi_Tr 1 (s' := (13, [(0, .ref 77)], [.int (0 : Int32)], st_mm (st_p s 77 0 (0 : Int32)))) rfl ?_
    exact bi_Tv rfl rfl (Or.inl ⟨_, _, rfl, h⟩)
