/-- PolicyRowsLaw.tell(LPolicyRows;I[J)I -/
theorem en_L_tell {X : bi_X} {d : Nat} {K : Int32 → bi_St → Prop} {E : Nat → bi_St → Prop} {s : bi_St} {x1 : Int32}  (h : cI X d 124 [.ref 0, .int x1] s (fun (r1 : Int32) (s1 : bi_St) => bi_in (0 : Int32) 1 = true ∧ (K (0 : Int32) (st_pl s1 112 ((0 : Int32)).toNatClampNeg (r1).toInt64))) (fun (e : Nat) (t : bi_St) => ((e = 101) → K (1 : Int32) t) ∧ (¬ (e = 101) → False))) : cI X (d + 1) 271 [.ref 0, .int x1, .ref 112] s K E := by
  show bi_T _ _ _ _ _
  refine bi_Tr 4 (s' := (4, [(0, .ref 0), (1, .int x1), (2, .ref 112)], [.int x1, .ref 0, .int (0 : Int32), .ref 112], st_mm s)) rfl ?_
  refine bi_TcI (as := [.ref 0, .int x1]) rfl rfl ?_
  refine cI.mono h (fun r1 s1 h => ?_) (fun e t h => ?_)
  · skip
    refine bi_Tr 1 (s' := (8, [(0, .ref 0), (1, .int x1), (2, .ref 112)], [.long (r1).toInt64, .int (0 : Int32), .ref 112], st_mm s1)) rfl ?_
    obtain ⟨hi, h⟩ := h
    refine bi_Tlas rfl rfl hi ?_
    refine bi_Tr 2 (s' := (16, [(0, .ref 0), (1, .int x1), (2, .ref 112)], [.int (0 : Int32)], st_mm (st_pl s1 112 ((0 : Int32)).toNatClampNeg (r1).toInt64))) rfl ?_
    exact bi_Tv rfl rfl (Or.inl ⟨_, _, rfl, h⟩)
  · skip
    by_cases he : e = 101
    · rw [he]; have h := h.1 he
      refine bi_Tr 1 (s' := (14, [(0, .ref 0), (1, .int x1), (2, .ref 112)], [.int (1 : Int32)], st_mm t)) rfl ?_
      exact bi_Tv rfl rfl (Or.inl ⟨_, _, rfl, h⟩)
    have h := h.2 he
    exact h.elim
/-- PolicyRowsLaw.query(LPolicyRows;III[J)I -/
theorem en_L_query {X : bi_X} {d : Nat} {K : Int32 → bi_St → Prop} {E : Nat → bi_St → Prop} {s : bi_St} {x1 : Int32} {x2 : Int32} {x3 : Int32}  (h : cI X d 125 [.ref 0, .int x1, .int x2, .int x3] s (fun (r1 : Int32) (s1 : bi_St) => bi_in (0 : Int32) 1 = true ∧ (K (0 : Int32) (st_pl s1 112 ((0 : Int32)).toNatClampNeg (r1).toInt64))) (fun (e : Nat) (t : bi_St) => ((e = 100) → K (1 : Int32) t) ∧ (¬ (e = 100) → ((e = 101) → K (2 : Int32) t) ∧ (¬ (e = 101) → False)))) : cI X (d + 1) 272 [.ref 0, .int x1, .int x2, .int x3, .ref 112] s K E := by
  show bi_T _ _ _ _ _
  refine bi_Tr 6 (s' := (7, [(0, .ref 0), (1, .int x1), (2, .int x2), (3, .int x3), (4, .ref 112)], [.int x3, .int x2, .int x1, .ref 0, .int (0 : Int32), .ref 112], st_mm s)) rfl ?_
  refine bi_TcI (as := [.ref 0, .int x1, .int x2, .int x3]) rfl rfl ?_
  refine cI.mono h (fun r1 s1 h => ?_) (fun e t h => ?_)
  · skip
    refine bi_Tr 1 (s' := (11, [(0, .ref 0), (1, .int x1), (2, .int x2), (3, .int x3), (4, .ref 112)], [.long (r1).toInt64, .int (0 : Int32), .ref 112], st_mm s1)) rfl ?_
    obtain ⟨hi, h⟩ := h
    refine bi_Tlas rfl rfl hi ?_
    refine bi_Tr 2 (s' := (24, [(0, .ref 0), (1, .int x1), (2, .int x2), (3, .int x3), (4, .ref 112)], [.int (0 : Int32)], st_mm (st_pl s1 112 ((0 : Int32)).toNatClampNeg (r1).toInt64))) rfl ?_
    exact bi_Tv rfl rfl (Or.inl ⟨_, _, rfl, h⟩)
  · skip
    by_cases he : e = 100
    · rw [he]; have h := h.1 he
      refine bi_Tr 1 (s' := (18, [(0, .ref 0), (1, .int x1), (2, .int x2), (3, .int x3), (4, .ref 112)], [.int (1 : Int32)], st_mm t)) rfl ?_
      exact bi_Tv rfl rfl (Or.inl ⟨_, _, rfl, h⟩)
    have h := h.2 he
    by_cases he : e = 101
    · rw [he]; have h := h.1 he
      refine bi_Tr 1 (s' := (22, [(0, .ref 0), (1, .int x1), (2, .int x2), (3, .int x3), (4, .ref 112)], [.int (2 : Int32)], st_mm t)) rfl ?_
      exact bi_Tv rfl rfl (Or.inl ⟨_, _, rfl, h⟩)
    have h := h.2 he
    exact h.elim
/-- PolicyRowsLaw.count(LPolicyRows;I[J)I -/
theorem en_L_count {X : bi_X} {d : Nat} {K : Int32 → bi_St → Prop} {E : Nat → bi_St → Prop} {s : bi_St} {x1 : Int32}  (h : cI X d 127 [.ref 0, .int x1] s (fun (r1 : Int32) (s1 : bi_St) => bi_in (0 : Int32) 1 = true ∧ (K (0 : Int32) (st_pl s1 112 ((0 : Int32)).toNatClampNeg (r1).toInt64))) (fun (e : Nat) (t : bi_St) => ((e = 100) → K (1 : Int32) t) ∧ (¬ (e = 100) → False))) : cI X (d + 1) 273 [.ref 0, .int x1, .ref 112] s K E := by
  show bi_T _ _ _ _ _
  refine bi_Tr 4 (s' := (4, [(0, .ref 0), (1, .int x1), (2, .ref 112)], [.int x1, .ref 0, .int (0 : Int32), .ref 112], st_mm s)) rfl ?_
  refine bi_TcI (as := [.ref 0, .int x1]) rfl rfl ?_
  refine cI.mono h (fun r1 s1 h => ?_) (fun e t h => ?_)
  · skip
    refine bi_Tr 1 (s' := (8, [(0, .ref 0), (1, .int x1), (2, .ref 112)], [.long (r1).toInt64, .int (0 : Int32), .ref 112], st_mm s1)) rfl ?_
    obtain ⟨hi, h⟩ := h
    refine bi_Tlas rfl rfl hi ?_
    refine bi_Tr 2 (s' := (16, [(0, .ref 0), (1, .int x1), (2, .ref 112)], [.int (0 : Int32)], st_mm (st_pl s1 112 ((0 : Int32)).toNatClampNeg (r1).toInt64))) rfl ?_
    exact bi_Tv rfl rfl (Or.inl ⟨_, _, rfl, h⟩)
  · skip
    by_cases he : e = 100
    · rw [he]; have h := h.1 he
      refine bi_Tr 1 (s' := (14, [(0, .ref 0), (1, .int x1), (2, .ref 112)], [.int (1 : Int32)], st_mm t)) rfl ?_
      exact bi_Tv rfl rfl (Or.inl ⟨_, _, rfl, h⟩)
    have h := h.2 he
    exact h.elim
/-- PolicyRowsLaw.role(LPolicyRows;II[J)I -/
theorem en_L_role {X : bi_X} {d : Nat} {K : Int32 → bi_St → Prop} {E : Nat → bi_St → Prop} {s : bi_St} {x1 : Int32} {x2 : Int32}  (h : cI X d 128 [.ref 0, .int x1, .int x2] s (fun (r1 : Int32) (s1 : bi_St) => bi_in (0 : Int32) 1 = true ∧ (K (0 : Int32) (st_pl s1 112 ((0 : Int32)).toNatClampNeg (r1).toInt64))) (fun (e : Nat) (t : bi_St) => ((e = 100) → K (1 : Int32) t) ∧ (¬ (e = 100) → False))) : cI X (d + 1) 274 [.ref 0, .int x1, .int x2, .ref 112] s K E := by
  show bi_T _ _ _ _ _
  refine bi_Tr 5 (s' := (5, [(0, .ref 0), (1, .int x1), (2, .int x2), (3, .ref 112)], [.int x2, .int x1, .ref 0, .int (0 : Int32), .ref 112], st_mm s)) rfl ?_
  refine bi_TcI (as := [.ref 0, .int x1, .int x2]) rfl rfl ?_
  refine cI.mono h (fun r1 s1 h => ?_) (fun e t h => ?_)
  · skip
    refine bi_Tr 1 (s' := (9, [(0, .ref 0), (1, .int x1), (2, .int x2), (3, .ref 112)], [.long (r1).toInt64, .int (0 : Int32), .ref 112], st_mm s1)) rfl ?_
    obtain ⟨hi, h⟩ := h
    refine bi_Tlas rfl rfl hi ?_
    refine bi_Tr 2 (s' := (18, [(0, .ref 0), (1, .int x1), (2, .int x2), (3, .ref 112)], [.int (0 : Int32)], st_mm (st_pl s1 112 ((0 : Int32)).toNatClampNeg (r1).toInt64))) rfl ?_
    exact bi_Tv rfl rfl (Or.inl ⟨_, _, rfl, h⟩)
  · skip
    by_cases he : e = 100
    · rw [he]; have h := h.1 he
      refine bi_Tr 1 (s' := (16, [(0, .ref 0), (1, .int x1), (2, .int x2), (3, .ref 112)], [.int (1 : Int32)], st_mm t)) rfl ?_
      exact bi_Tv rfl rfl (Or.inl ⟨_, _, rfl, h⟩)
    have h := h.2 he
    exact h.elim
/-- PolicyRowsLaw.cell(LPolicyRows;II[J)I -/
theorem en_L_cell {X : bi_X} {d : Nat} {K : Int32 → bi_St → Prop} {E : Nat → bi_St → Prop} {s : bi_St} {x1 : Int32} {x2 : Int32}  (h : cI X d 129 [.ref 0, .int x1, .int x2] s (fun (r1 : Int32) (s1 : bi_St) => bi_in (0 : Int32) 1 = true ∧ (K (0 : Int32) (st_pl s1 112 ((0 : Int32)).toNatClampNeg (r1).toInt64))) (fun (e : Nat) (t : bi_St) => ((e = 100) → K (1 : Int32) t) ∧ (¬ (e = 100) → False))) : cI X (d + 1) 275 [.ref 0, .int x1, .int x2, .ref 112] s K E := by
  show bi_T _ _ _ _ _
  refine bi_Tr 5 (s' := (5, [(0, .ref 0), (1, .int x1), (2, .int x2), (3, .ref 112)], [.int x2, .int x1, .ref 0, .int (0 : Int32), .ref 112], st_mm s)) rfl ?_
  refine bi_TcI (as := [.ref 0, .int x1, .int x2]) rfl rfl ?_
  refine cI.mono h (fun r1 s1 h => ?_) (fun e t h => ?_)
  · skip
    refine bi_Tr 1 (s' := (9, [(0, .ref 0), (1, .int x1), (2, .int x2), (3, .ref 112)], [.long (r1).toInt64, .int (0 : Int32), .ref 112], st_mm s1)) rfl ?_
    obtain ⟨hi, h⟩ := h
    refine bi_Tlas rfl rfl hi ?_
    refine bi_Tr 2 (s' := (18, [(0, .ref 0), (1, .int x1), (2, .int x2), (3, .ref 112)], [.int (0 : Int32)], st_mm (st_pl s1 112 ((0 : Int32)).toNatClampNeg (r1).toInt64))) rfl ?_
    exact bi_Tv rfl rfl (Or.inl ⟨_, _, rfl, h⟩)
  · skip
    by_cases he : e = 100
    · rw [he]; have h := h.1 he
      refine bi_Tr 1 (s' := (16, [(0, .ref 0), (1, .int x1), (2, .int x2), (3, .ref 112)], [.int (1 : Int32)], st_mm t)) rfl ?_
      exact bi_Tv rfl rfl (Or.inl ⟨_, _, rfl, h⟩)
    have h := h.2 he
    exact h.elim
/-- PolicyRowsLaw.policy(LPolicyRows;II[J)I -/
theorem en_L_policy {X : bi_X} {d : Nat} {K : Int32 → bi_St → Prop} {E : Nat → bi_St → Prop} {s : bi_St} {x1 : Int32} {x2 : Int32}  (h : cI X d 130 [.ref 0, .int x1, .int x2] s (fun (r1 : Int32) (s1 : bi_St) => bi_in (0 : Int32) 1 = true ∧ (K (0 : Int32) (st_pl s1 112 ((0 : Int32)).toNatClampNeg (r1).toInt64))) (fun (e : Nat) (t : bi_St) => ((e = 100) → K (1 : Int32) t) ∧ (¬ (e = 100) → False))) : cI X (d + 1) 276 [.ref 0, .int x1, .int x2, .ref 112] s K E := by
  show bi_T _ _ _ _ _
  refine bi_Tr 5 (s' := (5, [(0, .ref 0), (1, .int x1), (2, .int x2), (3, .ref 112)], [.int x2, .int x1, .ref 0, .int (0 : Int32), .ref 112], st_mm s)) rfl ?_
  refine bi_TcI (as := [.ref 0, .int x1, .int x2]) rfl rfl ?_
  refine cI.mono h (fun r1 s1 h => ?_) (fun e t h => ?_)
  · skip
    refine bi_Tr 1 (s' := (9, [(0, .ref 0), (1, .int x1), (2, .int x2), (3, .ref 112)], [.long (r1).toInt64, .int (0 : Int32), .ref 112], st_mm s1)) rfl ?_
    obtain ⟨hi, h⟩ := h
    refine bi_Tlas rfl rfl hi ?_
    refine bi_Tr 2 (s' := (18, [(0, .ref 0), (1, .int x1), (2, .int x2), (3, .ref 112)], [.int (0 : Int32)], st_mm (st_pl s1 112 ((0 : Int32)).toNatClampNeg (r1).toInt64))) rfl ?_
    exact bi_Tv rfl rfl (Or.inl ⟨_, _, rfl, h⟩)
  · skip
    by_cases he : e = 100
    · rw [he]; have h := h.1 he
      refine bi_Tr 1 (s' := (16, [(0, .ref 0), (1, .int x1), (2, .int x2), (3, .ref 112)], [.int (1 : Int32)], st_mm t)) rfl ?_
      exact bi_Tv rfl rfl (Or.inl ⟨_, _, rfl, h⟩)
    have h := h.2 he
    exact h.elim
/-- PolicyRowsLaw.view(LPolicyRows;II[J)I -/
theorem en_L_view {X : bi_X} {d : Nat} {K : Int32 → bi_St → Prop} {E : Nat → bi_St → Prop} {s : bi_St} {x1 : Int32} {x2 : Int32}  (h : cI X d 131 [.ref 0, .int x1, .int x2] s (fun (r1 : Int32) (s1 : bi_St) => bi_in (0 : Int32) 1 = true ∧ (K (0 : Int32) (st_pl s1 112 ((0 : Int32)).toNatClampNeg (r1).toInt64))) (fun (e : Nat) (t : bi_St) => ((e = 100) → K (1 : Int32) t) ∧ (¬ (e = 100) → False))) : cI X (d + 1) 277 [.ref 0, .int x1, .int x2, .ref 112] s K E := by
  show bi_T _ _ _ _ _
  refine bi_Tr 5 (s' := (5, [(0, .ref 0), (1, .int x1), (2, .int x2), (3, .ref 112)], [.int x2, .int x1, .ref 0, .int (0 : Int32), .ref 112], st_mm s)) rfl ?_
  refine bi_TcI (as := [.ref 0, .int x1, .int x2]) rfl rfl ?_
  refine cI.mono h (fun r1 s1 h => ?_) (fun e t h => ?_)
  · skip
    refine bi_Tr 1 (s' := (9, [(0, .ref 0), (1, .int x1), (2, .int x2), (3, .ref 112)], [.long (r1).toInt64, .int (0 : Int32), .ref 112], st_mm s1)) rfl ?_
    obtain ⟨hi, h⟩ := h
    refine bi_Tlas rfl rfl hi ?_
    refine bi_Tr 2 (s' := (18, [(0, .ref 0), (1, .int x1), (2, .int x2), (3, .ref 112)], [.int (0 : Int32)], st_mm (st_pl s1 112 ((0 : Int32)).toNatClampNeg (r1).toInt64))) rfl ?_
    exact bi_Tv rfl rfl (Or.inl ⟨_, _, rfl, h⟩)
  · skip
    by_cases he : e = 100
    · rw [he]; have h := h.1 he
      refine bi_Tr 1 (s' := (16, [(0, .ref 0), (1, .int x1), (2, .int x2), (3, .ref 112)], [.int (1 : Int32)], st_mm t)) rfl ?_
      exact bi_Tv rfl rfl (Or.inl ⟨_, _, rfl, h⟩)
    have h := h.2 he
    exact h.elim
/-- PolicyRowsLaw.asked(LPolicyRows;I[J)I -/
theorem en_L_asked {X : bi_X} {d : Nat} {K : Int32 → bi_St → Prop} {E : Nat → bi_St → Prop} {s : bi_St} {x1 : Int32}  (h : cI X d 132 [.ref 0, .int x1] s (fun (r1 : Int32) (s1 : bi_St) => bi_in (0 : Int32) 1 = true ∧ (K (0 : Int32) (st_pl s1 112 ((0 : Int32)).toNatClampNeg (r1).toInt64))) (fun (e : Nat) (t : bi_St) => ((e = 100) → K (1 : Int32) t) ∧ (¬ (e = 100) → False))) : cI X (d + 1) 278 [.ref 0, .int x1, .ref 112] s K E := by
  show bi_T _ _ _ _ _
  refine bi_Tr 4 (s' := (4, [(0, .ref 0), (1, .int x1), (2, .ref 112)], [.int x1, .ref 0, .int (0 : Int32), .ref 112], st_mm s)) rfl ?_
  refine bi_TcI (as := [.ref 0, .int x1]) rfl rfl ?_
  refine cI.mono h (fun r1 s1 h => ?_) (fun e t h => ?_)
  · skip
    refine bi_Tr 1 (s' := (8, [(0, .ref 0), (1, .int x1), (2, .ref 112)], [.long (r1).toInt64, .int (0 : Int32), .ref 112], st_mm s1)) rfl ?_
    obtain ⟨hi, h⟩ := h
    refine bi_Tlas rfl rfl hi ?_
    refine bi_Tr 2 (s' := (16, [(0, .ref 0), (1, .int x1), (2, .ref 112)], [.int (0 : Int32)], st_mm (st_pl s1 112 ((0 : Int32)).toNatClampNeg (r1).toInt64))) rfl ?_
    exact bi_Tv rfl rfl (Or.inl ⟨_, _, rfl, h⟩)
  · skip
    by_cases he : e = 100
    · rw [he]; have h := h.1 he
      refine bi_Tr 1 (s' := (14, [(0, .ref 0), (1, .int x1), (2, .ref 112)], [.int (1 : Int32)], st_mm t)) rfl ?_
      exact bi_Tv rfl rfl (Or.inl ⟨_, _, rfl, h⟩)
    have h := h.2 he
    exact h.elim
/-- PolicyRowsLaw.step(LPolicyRows;II[J)I -/
theorem en_L_step {X : bi_X} {d : Nat} {K : Int32 → bi_St → Prop} {E : Nat → bi_St → Prop} {s : bi_St} {x1 : Int32} {x2 : Int32}  (h : cI X d 133 [.ref 0, .int x1, .int x2] s (fun (r1 : Int32) (s1 : bi_St) => bi_in (0 : Int32) 1 = true ∧ (K (0 : Int32) (st_pl s1 112 ((0 : Int32)).toNatClampNeg (r1).toInt64))) (fun (e : Nat) (t : bi_St) => ((e = 100) → K (1 : Int32) t) ∧ (¬ (e = 100) → False))) : cI X (d + 1) 279 [.ref 0, .int x1, .int x2, .ref 112] s K E := by
  show bi_T _ _ _ _ _
  refine bi_Tr 5 (s' := (5, [(0, .ref 0), (1, .int x1), (2, .int x2), (3, .ref 112)], [.int x2, .int x1, .ref 0, .int (0 : Int32), .ref 112], st_mm s)) rfl ?_
  refine bi_TcI (as := [.ref 0, .int x1, .int x2]) rfl rfl ?_
  refine cI.mono h (fun r1 s1 h => ?_) (fun e t h => ?_)
  · skip
    refine bi_Tr 1 (s' := (9, [(0, .ref 0), (1, .int x1), (2, .int x2), (3, .ref 112)], [.long (r1).toInt64, .int (0 : Int32), .ref 112], st_mm s1)) rfl ?_
    obtain ⟨hi, h⟩ := h
    refine bi_Tlas rfl rfl hi ?_
    refine bi_Tr 2 (s' := (18, [(0, .ref 0), (1, .int x1), (2, .int x2), (3, .ref 112)], [.int (0 : Int32)], st_mm (st_pl s1 112 ((0 : Int32)).toNatClampNeg (r1).toInt64))) rfl ?_
    exact bi_Tv rfl rfl (Or.inl ⟨_, _, rfl, h⟩)
  · skip
    by_cases he : e = 100
    · rw [he]; have h := h.1 he
      refine bi_Tr 1 (s' := (16, [(0, .ref 0), (1, .int x1), (2, .int x2), (3, .ref 112)], [.int (1 : Int32)], st_mm t)) rfl ?_
      exact bi_Tv rfl rfl (Or.inl ⟨_, _, rfl, h⟩)
    have h := h.2 he
    exact h.elim
/-- PolicyRowsLaw.insert(LPolicyRows;IIIII[J)I -/
theorem en_L_insert {X : bi_X} {d : Nat} {K : Int32 → bi_St → Prop} {E : Nat → bi_St → Prop} {s : bi_St} {x1 : Int32} {x2 : Int32} {x3 : Int32} {x4 : Int32} {x5 : Int32}  (h : cI X d 134 [.ref 0, .int x1, .int x2, .int x3, .int x4, .int x5] s (fun (r1 : Int32) (s1 : bi_St) => bi_in (0 : Int32) 1 = true ∧ (K (0 : Int32) (st_pl s1 112 ((0 : Int32)).toNatClampNeg (r1).toInt64))) (fun (e : Nat) (t : bi_St) => ((e = 100) → K (1 : Int32) t) ∧ (¬ (e = 100) → False))) : cI X (d + 1) 280 [.ref 0, .int x1, .int x2, .int x3, .int x4, .int x5, .ref 112] s K E := by
  show bi_T _ _ _ _ _
  refine bi_Tr 8 (s' := (11, [(0, .ref 0), (1, .int x1), (2, .int x2), (3, .int x3), (4, .int x4), (5, .int x5), (6, .ref 112)], [.int x5, .int x4, .int x3, .int x2, .int x1, .ref 0, .int (0 : Int32), .ref 112], st_mm s)) rfl ?_
  refine bi_TcI (as := [.ref 0, .int x1, .int x2, .int x3, .int x4, .int x5]) rfl rfl ?_
  refine cI.mono h (fun r1 s1 h => ?_) (fun e t h => ?_)
  · skip
    refine bi_Tr 1 (s' := (15, [(0, .ref 0), (1, .int x1), (2, .int x2), (3, .int x3), (4, .int x4), (5, .int x5), (6, .ref 112)], [.long (r1).toInt64, .int (0 : Int32), .ref 112], st_mm s1)) rfl ?_
    obtain ⟨hi, h⟩ := h
    refine bi_Tlas rfl rfl hi ?_
    refine bi_Tr 2 (s' := (24, [(0, .ref 0), (1, .int x1), (2, .int x2), (3, .int x3), (4, .int x4), (5, .int x5), (6, .ref 112)], [.int (0 : Int32)], st_mm (st_pl s1 112 ((0 : Int32)).toNatClampNeg (r1).toInt64))) rfl ?_
    exact bi_Tv rfl rfl (Or.inl ⟨_, _, rfl, h⟩)
  · skip
    by_cases he : e = 100
    · rw [he]; have h := h.1 he
      refine bi_Tr 1 (s' := (22, [(0, .ref 0), (1, .int x1), (2, .int x2), (3, .int x3), (4, .int x4), (5, .int x5), (6, .ref 112)], [.int (1 : Int32)], st_mm t)) rfl ?_
      exact bi_Tv rfl rfl (Or.inl ⟨_, _, rfl, h⟩)
    have h := h.2 he
    exact h.elim
/-- PolicyRowsLaw.update(LPolicyRows;IIII[J)I -/
theorem en_L_update {X : bi_X} {d : Nat} {K : Int32 → bi_St → Prop} {E : Nat → bi_St → Prop} {s : bi_St} {x1 : Int32} {x2 : Int32} {x3 : Int32} {x4 : Int32}  (h : cI X d 135 [.ref 0, .int x1, .int x2, .int x3, .int x4] s (fun (r1 : Int32) (s1 : bi_St) => bi_in (0 : Int32) 1 = true ∧ (K (0 : Int32) (st_pl s1 112 ((0 : Int32)).toNatClampNeg (r1).toInt64))) (fun (e : Nat) (t : bi_St) => ((e = 100) → K (1 : Int32) t) ∧ (¬ (e = 100) → False))) : cI X (d + 1) 281 [.ref 0, .int x1, .int x2, .int x3, .int x4, .ref 112] s K E := by
  show bi_T _ _ _ _ _
  refine bi_Tr 7 (s' := (9, [(0, .ref 0), (1, .int x1), (2, .int x2), (3, .int x3), (4, .int x4), (5, .ref 112)], [.int x4, .int x3, .int x2, .int x1, .ref 0, .int (0 : Int32), .ref 112], st_mm s)) rfl ?_
  refine bi_TcI (as := [.ref 0, .int x1, .int x2, .int x3, .int x4]) rfl rfl ?_
  refine cI.mono h (fun r1 s1 h => ?_) (fun e t h => ?_)
  · skip
    refine bi_Tr 1 (s' := (13, [(0, .ref 0), (1, .int x1), (2, .int x2), (3, .int x3), (4, .int x4), (5, .ref 112)], [.long (r1).toInt64, .int (0 : Int32), .ref 112], st_mm s1)) rfl ?_
    obtain ⟨hi, h⟩ := h
    refine bi_Tlas rfl rfl hi ?_
    refine bi_Tr 2 (s' := (22, [(0, .ref 0), (1, .int x1), (2, .int x2), (3, .int x3), (4, .int x4), (5, .ref 112)], [.int (0 : Int32)], st_mm (st_pl s1 112 ((0 : Int32)).toNatClampNeg (r1).toInt64))) rfl ?_
    exact bi_Tv rfl rfl (Or.inl ⟨_, _, rfl, h⟩)
  · skip
    by_cases he : e = 100
    · rw [he]; have h := h.1 he
      refine bi_Tr 1 (s' := (20, [(0, .ref 0), (1, .int x1), (2, .int x2), (3, .int x3), (4, .int x4), (5, .ref 112)], [.int (1 : Int32)], st_mm t)) rfl ?_
      exact bi_Tv rfl rfl (Or.inl ⟨_, _, rfl, h⟩)
    have h := h.2 he
    exact h.elim
/-- PolicyRowsLaw.delete(LPolicyRows;II[J)I -/
theorem en_L_delete {X : bi_X} {d : Nat} {K : Int32 → bi_St → Prop} {E : Nat → bi_St → Prop} {s : bi_St} {x1 : Int32} {x2 : Int32}  (h : cI X d 136 [.ref 0, .int x1, .int x2] s (fun (r1 : Int32) (s1 : bi_St) => bi_in (0 : Int32) 1 = true ∧ (K (0 : Int32) (st_pl s1 112 ((0 : Int32)).toNatClampNeg (r1).toInt64))) (fun (e : Nat) (t : bi_St) => ((e = 100) → K (1 : Int32) t) ∧ (¬ (e = 100) → False))) : cI X (d + 1) 282 [.ref 0, .int x1, .int x2, .ref 112] s K E := by
  show bi_T _ _ _ _ _
  refine bi_Tr 5 (s' := (5, [(0, .ref 0), (1, .int x1), (2, .int x2), (3, .ref 112)], [.int x2, .int x1, .ref 0, .int (0 : Int32), .ref 112], st_mm s)) rfl ?_
  refine bi_TcI (as := [.ref 0, .int x1, .int x2]) rfl rfl ?_
  refine cI.mono h (fun r1 s1 h => ?_) (fun e t h => ?_)
  · skip
    refine bi_Tr 1 (s' := (9, [(0, .ref 0), (1, .int x1), (2, .int x2), (3, .ref 112)], [.long (r1).toInt64, .int (0 : Int32), .ref 112], st_mm s1)) rfl ?_
    obtain ⟨hi, h⟩ := h
    refine bi_Tlas rfl rfl hi ?_
    refine bi_Tr 2 (s' := (18, [(0, .ref 0), (1, .int x1), (2, .int x2), (3, .ref 112)], [.int (0 : Int32)], st_mm (st_pl s1 112 ((0 : Int32)).toNatClampNeg (r1).toInt64))) rfl ?_
    exact bi_Tv rfl rfl (Or.inl ⟨_, _, rfl, h⟩)
  · skip
    by_cases he : e = 100
    · rw [he]; have h := h.1 he
      refine bi_Tr 1 (s' := (16, [(0, .ref 0), (1, .int x1), (2, .int x2), (3, .ref 112)], [.int (1 : Int32)], st_mm t)) rfl ?_
      exact bi_Tv rfl rfl (Or.inl ⟨_, _, rfl, h⟩)
    have h := h.2 he
    exact h.elim
/-- PolicyRowsLaw.grant(LPolicyRows;IIZ[J)I -/
theorem en_L_grant {X : bi_X} {d : Nat} {K : Int32 → bi_St → Prop} {E : Nat → bi_St → Prop} {s : bi_St} {x1 : Int32} {x2 : Int32} {x3 : Int32}  (h : cI X d 137 [.ref 0, .int x1, .int x2, .int x3] s (fun (r1 : Int32) (s1 : bi_St) => ((r1 = 0) → bi_in (0 : Int32) 1 = true ∧ (K (0 : Int32) (st_pl s1 112 ((0 : Int32)).toNatClampNeg (0 : Int64)))) ∧ (¬ (r1 = 0) → bi_in (0 : Int32) 1 = true ∧ (K (0 : Int32) (st_pl s1 112 ((0 : Int32)).toNatClampNeg (1 : Int64))))) (fun (e : Nat) (t : bi_St) => ((e = 100) → K (1 : Int32) t) ∧ (¬ (e = 100) → False))) : cI X (d + 1) 283 [.ref 0, .int x1, .int x2, .int x3, .ref 112] s K E := by
  show bi_T _ _ _ _ _
  refine bi_Tr 6 (s' := (7, [(0, .ref 0), (1, .int x1), (2, .int x2), (3, .int x3), (4, .ref 112)], [.int x3, .int x2, .int x1, .ref 0, .int (0 : Int32), .ref 112], st_mm s)) rfl ?_
  refine bi_TcI (as := [.ref 0, .int x1, .int x2, .int x3]) rfl rfl ?_
  refine cI.mono h (fun r1 s1 h => ?_) (fun e t h => ?_)
  · skip
    refine bi_Tr 1 (s' := ((if r1 = 0 then 17 else 13), [(0, .ref 0), (1, .int x1), (2, .int x2), (3, .int x3), (4, .ref 112)], [.int (0 : Int32), .ref 112], st_mm s1)) rfl (bi_Tif (fun hc => ?_) (fun hc => ?_))
    · have h := h.1 hc
      refine bi_Tr 1 (s' := (18, [(0, .ref 0), (1, .int x1), (2, .int x2), (3, .int x3), (4, .ref 112)], [.long (0 : Int64), .int (0 : Int32), .ref 112], st_mm s1)) rfl ?_
      obtain ⟨hi, h⟩ := h
      refine bi_Tlas rfl rfl hi ?_
      refine bi_Tr 2 (s' := (27, [(0, .ref 0), (1, .int x1), (2, .int x2), (3, .int x3), (4, .ref 112)], [.int (0 : Int32)], st_mm (st_pl s1 112 ((0 : Int32)).toNatClampNeg (0 : Int64)))) rfl ?_
      exact bi_Tv rfl rfl (Or.inl ⟨_, _, rfl, h⟩)
    · have h := h.2 hc
      refine bi_Tr 2 (s' := (18, [(0, .ref 0), (1, .int x1), (2, .int x2), (3, .int x3), (4, .ref 112)], [.long (1 : Int64), .int (0 : Int32), .ref 112], st_mm s1)) rfl ?_
      obtain ⟨hi, h⟩ := h
      refine bi_Tlas rfl rfl hi ?_
      refine bi_Tr 2 (s' := (27, [(0, .ref 0), (1, .int x1), (2, .int x2), (3, .int x3), (4, .ref 112)], [.int (0 : Int32)], st_mm (st_pl s1 112 ((0 : Int32)).toNatClampNeg (1 : Int64)))) rfl ?_
      exact bi_Tv rfl rfl (Or.inl ⟨_, _, rfl, h⟩)
  · skip
    by_cases he : e = 100
    · rw [he]; have h := h.1 he
      refine bi_Tr 1 (s' := (25, [(0, .ref 0), (1, .int x1), (2, .int x2), (3, .int x3), (4, .ref 112)], [.int (1 : Int32)], st_mm t)) rfl ?_
      exact bi_Tv rfl rfl (Or.inl ⟨_, _, rfl, h⟩)
    have h := h.2 he
    exact h.elim
/-- PolicyRowsLaw.turn(LPolicyRows;IZ[J)I -/
theorem en_L_turn {X : bi_X} {d : Nat} {K : Int32 → bi_St → Prop} {E : Nat → bi_St → Prop} {s : bi_St} {x1 : Int32} {x2 : Int32}  (h : cI X d 138 [.ref 0, .int x1, .int x2] s (fun (r1 : Int32) (s1 : bi_St) => ((r1 = 0) → bi_in (0 : Int32) 1 = true ∧ (K (0 : Int32) (st_pl s1 112 ((0 : Int32)).toNatClampNeg (0 : Int64)))) ∧ (¬ (r1 = 0) → bi_in (0 : Int32) 1 = true ∧ (K (0 : Int32) (st_pl s1 112 ((0 : Int32)).toNatClampNeg (1 : Int64))))) (fun (e : Nat) (t : bi_St) => ((e = 100) → K (1 : Int32) t) ∧ (¬ (e = 100) → False))) : cI X (d + 1) 284 [.ref 0, .int x1, .int x2, .ref 112] s K E := by
  show bi_T _ _ _ _ _
  refine bi_Tr 5 (s' := (5, [(0, .ref 0), (1, .int x1), (2, .int x2), (3, .ref 112)], [.int x2, .int x1, .ref 0, .int (0 : Int32), .ref 112], st_mm s)) rfl ?_
  refine bi_TcI (as := [.ref 0, .int x1, .int x2]) rfl rfl ?_
  refine cI.mono h (fun r1 s1 h => ?_) (fun e t h => ?_)
  · skip
    refine bi_Tr 1 (s' := ((if r1 = 0 then 15 else 11), [(0, .ref 0), (1, .int x1), (2, .int x2), (3, .ref 112)], [.int (0 : Int32), .ref 112], st_mm s1)) rfl (bi_Tif (fun hc => ?_) (fun hc => ?_))
    · have h := h.1 hc
      refine bi_Tr 1 (s' := (16, [(0, .ref 0), (1, .int x1), (2, .int x2), (3, .ref 112)], [.long (0 : Int64), .int (0 : Int32), .ref 112], st_mm s1)) rfl ?_
      obtain ⟨hi, h⟩ := h
      refine bi_Tlas rfl rfl hi ?_
      refine bi_Tr 2 (s' := (25, [(0, .ref 0), (1, .int x1), (2, .int x2), (3, .ref 112)], [.int (0 : Int32)], st_mm (st_pl s1 112 ((0 : Int32)).toNatClampNeg (0 : Int64)))) rfl ?_
      exact bi_Tv rfl rfl (Or.inl ⟨_, _, rfl, h⟩)
    · have h := h.2 hc
      refine bi_Tr 2 (s' := (16, [(0, .ref 0), (1, .int x1), (2, .int x2), (3, .ref 112)], [.long (1 : Int64), .int (0 : Int32), .ref 112], st_mm s1)) rfl ?_
      obtain ⟨hi, h⟩ := h
      refine bi_Tlas rfl rfl hi ?_
      refine bi_Tr 2 (s' := (25, [(0, .ref 0), (1, .int x1), (2, .int x2), (3, .ref 112)], [.int (0 : Int32)], st_mm (st_pl s1 112 ((0 : Int32)).toNatClampNeg (1 : Int64)))) rfl ?_
      exact bi_Tv rfl rfl (Or.inl ⟨_, _, rfl, h⟩)
  · skip
    by_cases he : e = 100
    · rw [he]; have h := h.1 he
      refine bi_Tr 1 (s' := (23, [(0, .ref 0), (1, .int x1), (2, .int x2), (3, .ref 112)], [.int (1 : Int32)], st_mm t)) rfl ?_
      exact bi_Tv rfl rfl (Or.inl ⟨_, _, rfl, h⟩)
    have h := h.2 he
    exact h.elim
/-- PolicyRowsLaw.readers(LPolicyRows;I[J)I -/
theorem en_L_readers {X : bi_X} {d : Nat} {K : Int32 → bi_St → Prop} {E : Nat → bi_St → Prop} {s : bi_St} {x1 : Int32}  (h : cI X d 140 [.ref 0, .int x1] s (fun (r1 : Int32) (s1 : bi_St) => bi_in (0 : Int32) 1 = true ∧ (K (0 : Int32) (st_pl s1 112 ((0 : Int32)).toNatClampNeg (r1).toInt64))) (fun (e : Nat) (t : bi_St) => ((e = 100) → K (1 : Int32) t) ∧ (¬ (e = 100) → False))) : cI X (d + 1) 285 [.ref 0, .int x1, .ref 112] s K E := by
  show bi_T _ _ _ _ _
  refine bi_Tr 4 (s' := (4, [(0, .ref 0), (1, .int x1), (2, .ref 112)], [.int x1, .ref 0, .int (0 : Int32), .ref 112], st_mm s)) rfl ?_
  refine bi_TcI (as := [.ref 0, .int x1]) rfl rfl ?_
  refine cI.mono h (fun r1 s1 h => ?_) (fun e t h => ?_)
  · skip
    refine bi_Tr 1 (s' := (8, [(0, .ref 0), (1, .int x1), (2, .ref 112)], [.long (r1).toInt64, .int (0 : Int32), .ref 112], st_mm s1)) rfl ?_
    obtain ⟨hi, h⟩ := h
    refine bi_Tlas rfl rfl hi ?_
    refine bi_Tr 2 (s' := (16, [(0, .ref 0), (1, .int x1), (2, .ref 112)], [.int (0 : Int32)], st_mm (st_pl s1 112 ((0 : Int32)).toNatClampNeg (r1).toInt64))) rfl ?_
    exact bi_Tv rfl rfl (Or.inl ⟨_, _, rfl, h⟩)
  · skip
    by_cases he : e = 100
    · rw [he]; have h := h.1 he
      refine bi_Tr 1 (s' := (14, [(0, .ref 0), (1, .int x1), (2, .ref 112)], [.int (1 : Int32)], st_mm t)) rfl ?_
      exact bi_Tv rfl rfl (Or.inl ⟨_, _, rfl, h⟩)
    have h := h.2 he
    exact h.elim
/-- PolicyRowsLaw.toSee(LPolicyRows;II[J)I -/
theorem en_L_toSee {X : bi_X} {d : Nat} {K : Int32 → bi_St → Prop} {E : Nat → bi_St → Prop} {s : bi_St} {x1 : Int32} {x2 : Int32}  (h : cI X d 141 [.ref 0, .int x1, .int x2] s (fun (r1 : Int32) (s1 : bi_St) => bi_in (0 : Int32) 1 = true ∧ (K (0 : Int32) (st_pl s1 112 ((0 : Int32)).toNatClampNeg (r1).toInt64))) (fun (e : Nat) (t : bi_St) => ((e = 100) → K (1 : Int32) t) ∧ (¬ (e = 100) → False))) : cI X (d + 1) 286 [.ref 0, .int x1, .int x2, .ref 112] s K E := by
  show bi_T _ _ _ _ _
  refine bi_Tr 5 (s' := (5, [(0, .ref 0), (1, .int x1), (2, .int x2), (3, .ref 112)], [.int x2, .int x1, .ref 0, .int (0 : Int32), .ref 112], st_mm s)) rfl ?_
  refine bi_TcI (as := [.ref 0, .int x1, .int x2]) rfl rfl ?_
  refine cI.mono h (fun r1 s1 h => ?_) (fun e t h => ?_)
  · skip
    refine bi_Tr 1 (s' := (9, [(0, .ref 0), (1, .int x1), (2, .int x2), (3, .ref 112)], [.long (r1).toInt64, .int (0 : Int32), .ref 112], st_mm s1)) rfl ?_
    obtain ⟨hi, h⟩ := h
    refine bi_Tlas rfl rfl hi ?_
    refine bi_Tr 2 (s' := (18, [(0, .ref 0), (1, .int x1), (2, .int x2), (3, .ref 112)], [.int (0 : Int32)], st_mm (st_pl s1 112 ((0 : Int32)).toNatClampNeg (r1).toInt64))) rfl ?_
    exact bi_Tv rfl rfl (Or.inl ⟨_, _, rfl, h⟩)
  · skip
    by_cases he : e = 100
    · rw [he]; have h := h.1 he
      refine bi_Tr 1 (s' := (16, [(0, .ref 0), (1, .int x1), (2, .int x2), (3, .ref 112)], [.int (1 : Int32)], st_mm t)) rfl ?_
      exact bi_Tv rfl rfl (Or.inl ⟨_, _, rfl, h⟩)
    have h := h.2 he
    exact h.elim
/-- PolicyRowsLaw.escapes(LPolicyRows;II[J)I -/
theorem en_L_escapes {X : bi_X} {d : Nat} {K : Int32 → bi_St → Prop} {E : Nat → bi_St → Prop} {s : bi_St} {x1 : Int32} {x2 : Int32}  (h : cI X d 142 [.ref 0, .int x1, .int x2] s (fun (r1 : Int32) (s1 : bi_St) => bi_in (0 : Int32) 1 = true ∧ (K (0 : Int32) (st_pl s1 112 ((0 : Int32)).toNatClampNeg (r1).toInt64))) (fun (e : Nat) (t : bi_St) => ((e = 100) → K (1 : Int32) t) ∧ (¬ (e = 100) → False))) : cI X (d + 1) 287 [.ref 0, .int x1, .int x2, .ref 112] s K E := by
  show bi_T _ _ _ _ _
  refine bi_Tr 5 (s' := (5, [(0, .ref 0), (1, .int x1), (2, .int x2), (3, .ref 112)], [.int x2, .int x1, .ref 0, .int (0 : Int32), .ref 112], st_mm s)) rfl ?_
  refine bi_TcI (as := [.ref 0, .int x1, .int x2]) rfl rfl ?_
  refine cI.mono h (fun r1 s1 h => ?_) (fun e t h => ?_)
  · skip
    refine bi_Tr 1 (s' := (9, [(0, .ref 0), (1, .int x1), (2, .int x2), (3, .ref 112)], [.long (r1).toInt64, .int (0 : Int32), .ref 112], st_mm s1)) rfl ?_
    obtain ⟨hi, h⟩ := h
    refine bi_Tlas rfl rfl hi ?_
    refine bi_Tr 2 (s' := (18, [(0, .ref 0), (1, .int x1), (2, .int x2), (3, .ref 112)], [.int (0 : Int32)], st_mm (st_pl s1 112 ((0 : Int32)).toNatClampNeg (r1).toInt64))) rfl ?_
    exact bi_Tv rfl rfl (Or.inl ⟨_, _, rfl, h⟩)
  · skip
    by_cases he : e = 100
    · rw [he]; have h := h.1 he
      refine bi_Tr 1 (s' := (16, [(0, .ref 0), (1, .int x1), (2, .int x2), (3, .ref 112)], [.int (1 : Int32)], st_mm t)) rfl ?_
      exact bi_Tv rfl rfl (Or.inl ⟨_, _, rfl, h⟩)
    have h := h.2 he
    exact h.elim
/-- PolicyRowsLaw.may(LPolicyRows;III[J)I -/
theorem en_L_may {X : bi_X} {d : Nat} {K : Int32 → bi_St → Prop} {E : Nat → bi_St → Prop} {s : bi_St} {x1 : Int32} {x2 : Int32} {x3 : Int32}  (h : cI X d 143 [.ref 0, .int x1, .int x2, .int x3] s (fun (r1 : Int32) (s1 : bi_St) => bi_in (0 : Int32) 1 = true ∧ (K (0 : Int32) (st_pl s1 112 ((0 : Int32)).toNatClampNeg (r1).toInt64))) (fun (e : Nat) (t : bi_St) => ((e = 100) → K (1 : Int32) t) ∧ (¬ (e = 100) → False))) : cI X (d + 1) 288 [.ref 0, .int x1, .int x2, .int x3, .ref 112] s K E := by
  show bi_T _ _ _ _ _
  refine bi_Tr 6 (s' := (7, [(0, .ref 0), (1, .int x1), (2, .int x2), (3, .int x3), (4, .ref 112)], [.int x3, .int x2, .int x1, .ref 0, .int (0 : Int32), .ref 112], st_mm s)) rfl ?_
  refine bi_TcI (as := [.ref 0, .int x1, .int x2, .int x3]) rfl rfl ?_
  refine cI.mono h (fun r1 s1 h => ?_) (fun e t h => ?_)
  · skip
    refine bi_Tr 1 (s' := (11, [(0, .ref 0), (1, .int x1), (2, .int x2), (3, .int x3), (4, .ref 112)], [.long (r1).toInt64, .int (0 : Int32), .ref 112], st_mm s1)) rfl ?_
    obtain ⟨hi, h⟩ := h
    refine bi_Tlas rfl rfl hi ?_
    refine bi_Tr 2 (s' := (20, [(0, .ref 0), (1, .int x1), (2, .int x2), (3, .int x3), (4, .ref 112)], [.int (0 : Int32)], st_mm (st_pl s1 112 ((0 : Int32)).toNatClampNeg (r1).toInt64))) rfl ?_
    exact bi_Tv rfl rfl (Or.inl ⟨_, _, rfl, h⟩)
  · skip
    by_cases he : e = 100
    · rw [he]; have h := h.1 he
      refine bi_Tr 1 (s' := (18, [(0, .ref 0), (1, .int x1), (2, .int x2), (3, .int x3), (4, .ref 112)], [.int (1 : Int32)], st_mm t)) rfl ?_
      exact bi_Tv rfl rfl (Or.inl ⟨_, _, rfl, h⟩)
    have h := h.2 he
    exact h.elim
/-- PolicyRowsLaw.see(LPolicyRows;IIZ[J)I -/
theorem en_L_see {X : bi_X} {d : Nat} {K : Int32 → bi_St → Prop} {E : Nat → bi_St → Prop} {s : bi_St} {x1 : Int32} {x2 : Int32} {x3 : Int32}  (h : cI X d 144 [.ref 0, .int x1, .int x2, .int x3] s (fun (r1 : Int32) (s1 : bi_St) => bi_in (0 : Int32) 1 = true ∧ (K (0 : Int32) (st_pl s1 112 ((0 : Int32)).toNatClampNeg (r1).toInt64))) (fun (e : Nat) (t : bi_St) => ((e = 100) → K (1 : Int32) t) ∧ (¬ (e = 100) → False))) : cI X (d + 1) 289 [.ref 0, .int x1, .int x2, .int x3, .ref 112] s K E := by
  show bi_T _ _ _ _ _
  refine bi_Tr 6 (s' := (7, [(0, .ref 0), (1, .int x1), (2, .int x2), (3, .int x3), (4, .ref 112)], [.int x3, .int x2, .int x1, .ref 0, .int (0 : Int32), .ref 112], st_mm s)) rfl ?_
  refine bi_TcI (as := [.ref 0, .int x1, .int x2, .int x3]) rfl rfl ?_
  refine cI.mono h (fun r1 s1 h => ?_) (fun e t h => ?_)
  · skip
    refine bi_Tr 1 (s' := (11, [(0, .ref 0), (1, .int x1), (2, .int x2), (3, .int x3), (4, .ref 112)], [.long (r1).toInt64, .int (0 : Int32), .ref 112], st_mm s1)) rfl ?_
    obtain ⟨hi, h⟩ := h
    refine bi_Tlas rfl rfl hi ?_
    refine bi_Tr 2 (s' := (20, [(0, .ref 0), (1, .int x1), (2, .int x2), (3, .int x3), (4, .ref 112)], [.int (0 : Int32)], st_mm (st_pl s1 112 ((0 : Int32)).toNatClampNeg (r1).toInt64))) rfl ?_
    exact bi_Tv rfl rfl (Or.inl ⟨_, _, rfl, h⟩)
  · skip
    by_cases he : e = 100
    · rw [he]; have h := h.1 he
      refine bi_Tr 1 (s' := (18, [(0, .ref 0), (1, .int x1), (2, .int x2), (3, .int x3), (4, .ref 112)], [.int (1 : Int32)], st_mm t)) rfl ?_
      exact bi_Tv rfl rfl (Or.inl ⟨_, _, rfl, h⟩)
    have h := h.2 he
    exact h.elim
/-- PolicyRowsLaw.meant(LPolicyRows;I[J)I -/
theorem en_L_meant {X : bi_X} {d : Nat} {K : Int32 → bi_St → Prop} {E : Nat → bi_St → Prop} {s : bi_St} {x1 : Int32}  (h : cI X d 146 [.ref 0, .int x1] s (fun (r1 : Int32) (s1 : bi_St) => bi_in (0 : Int32) 1 = true ∧ (K (0 : Int32) (st_pl s1 112 ((0 : Int32)).toNatClampNeg (r1).toInt64))) (fun (e : Nat) (t : bi_St) => ((e = 100) → K (1 : Int32) t) ∧ (¬ (e = 100) → False))) : cI X (d + 1) 290 [.ref 0, .int x1, .ref 112] s K E := by
  show bi_T _ _ _ _ _
  refine bi_Tr 4 (s' := (4, [(0, .ref 0), (1, .int x1), (2, .ref 112)], [.int x1, .ref 0, .int (0 : Int32), .ref 112], st_mm s)) rfl ?_
  refine bi_TcI (as := [.ref 0, .int x1]) rfl rfl ?_
  refine cI.mono h (fun r1 s1 h => ?_) (fun e t h => ?_)
  · skip
    refine bi_Tr 1 (s' := (8, [(0, .ref 0), (1, .int x1), (2, .ref 112)], [.long (r1).toInt64, .int (0 : Int32), .ref 112], st_mm s1)) rfl ?_
    obtain ⟨hi, h⟩ := h
    refine bi_Tlas rfl rfl hi ?_
    refine bi_Tr 2 (s' := (16, [(0, .ref 0), (1, .int x1), (2, .ref 112)], [.int (0 : Int32)], st_mm (st_pl s1 112 ((0 : Int32)).toNatClampNeg (r1).toInt64))) rfl ?_
    exact bi_Tv rfl rfl (Or.inl ⟨_, _, rfl, h⟩)
  · skip
    by_cases he : e = 100
    · rw [he]; have h := h.1 he
      refine bi_Tr 1 (s' := (14, [(0, .ref 0), (1, .int x1), (2, .ref 112)], [.int (1 : Int32)], st_mm t)) rfl ?_
      exact bi_Tv rfl rfl (Or.inl ⟨_, _, rfl, h⟩)
    have h := h.2 he
    exact h.elim
/-- PolicyRowsLaw.look(LPolicyRows;I[J)I -/
theorem en_L_look {X : bi_X} {d : Nat} {K : Int32 → bi_St → Prop} {E : Nat → bi_St → Prop} {s : bi_St} {x1 : Int32}  (h : cI X d 147 [.ref 0, .int x1] s (fun (r1 : Int32) (s1 : bi_St) => bi_in (0 : Int32) 1 = true ∧ (K (0 : Int32) (st_pl s1 112 ((0 : Int32)).toNatClampNeg (r1).toInt64))) (fun (e : Nat) (t : bi_St) => ((e = 100) → K (1 : Int32) t) ∧ (¬ (e = 100) → False))) : cI X (d + 1) 291 [.ref 0, .int x1, .ref 112] s K E := by
  show bi_T _ _ _ _ _
  refine bi_Tr 4 (s' := (4, [(0, .ref 0), (1, .int x1), (2, .ref 112)], [.int x1, .ref 0, .int (0 : Int32), .ref 112], st_mm s)) rfl ?_
  refine bi_TcI (as := [.ref 0, .int x1]) rfl rfl ?_
  refine cI.mono h (fun r1 s1 h => ?_) (fun e t h => ?_)
  · skip
    refine bi_Tr 1 (s' := (8, [(0, .ref 0), (1, .int x1), (2, .ref 112)], [.long (r1).toInt64, .int (0 : Int32), .ref 112], st_mm s1)) rfl ?_
    obtain ⟨hi, h⟩ := h
    refine bi_Tlas rfl rfl hi ?_
    refine bi_Tr 2 (s' := (16, [(0, .ref 0), (1, .int x1), (2, .ref 112)], [.int (0 : Int32)], st_mm (st_pl s1 112 ((0 : Int32)).toNatClampNeg (r1).toInt64))) rfl ?_
    exact bi_Tv rfl rfl (Or.inl ⟨_, _, rfl, h⟩)
  · skip
    by_cases he : e = 100
    · rw [he]; have h := h.1 he
      refine bi_Tr 1 (s' := (14, [(0, .ref 0), (1, .int x1), (2, .ref 112)], [.int (1 : Int32)], st_mm t)) rfl ?_
      exact bi_Tv rfl rfl (Or.inl ⟨_, _, rfl, h⟩)
    have h := h.2 he
    exact h.elim
/-- PolicyRowsLaw.lapses(LPolicyRows;III[J)I -/
theorem en_L_lapses {X : bi_X} {d : Nat} {K : Int32 → bi_St → Prop} {E : Nat → bi_St → Prop} {s : bi_St} {x1 : Int32} {x2 : Int32} {x3 : Int32}  (h : cI X d 148 [.ref 0, .int x1, .int x2, .int x3] s (fun (r1 : Int32) (s1 : bi_St) => bi_in (0 : Int32) 1 = true ∧ (K (0 : Int32) (st_pl s1 112 ((0 : Int32)).toNatClampNeg (r1).toInt64))) (fun (e : Nat) (t : bi_St) => ((e = 100) → K (1 : Int32) t) ∧ (¬ (e = 100) → ((e = 101) → K (2 : Int32) t) ∧ (¬ (e = 101) → False)))) : cI X (d + 1) 292 [.ref 0, .int x1, .int x2, .int x3, .ref 112] s K E := by
  show bi_T _ _ _ _ _
  refine bi_Tr 6 (s' := (7, [(0, .ref 0), (1, .int x1), (2, .int x2), (3, .int x3), (4, .ref 112)], [.int x3, .int x2, .int x1, .ref 0, .int (0 : Int32), .ref 112], st_mm s)) rfl ?_
  refine bi_TcI (as := [.ref 0, .int x1, .int x2, .int x3]) rfl rfl ?_
  refine cI.mono h (fun r1 s1 h => ?_) (fun e t h => ?_)
  · skip
    refine bi_Tr 1 (s' := (11, [(0, .ref 0), (1, .int x1), (2, .int x2), (3, .int x3), (4, .ref 112)], [.long (r1).toInt64, .int (0 : Int32), .ref 112], st_mm s1)) rfl ?_
    obtain ⟨hi, h⟩ := h
    refine bi_Tlas rfl rfl hi ?_
    refine bi_Tr 2 (s' := (24, [(0, .ref 0), (1, .int x1), (2, .int x2), (3, .int x3), (4, .ref 112)], [.int (0 : Int32)], st_mm (st_pl s1 112 ((0 : Int32)).toNatClampNeg (r1).toInt64))) rfl ?_
    exact bi_Tv rfl rfl (Or.inl ⟨_, _, rfl, h⟩)
  · skip
    by_cases he : e = 100
    · rw [he]; have h := h.1 he
      refine bi_Tr 1 (s' := (18, [(0, .ref 0), (1, .int x1), (2, .int x2), (3, .int x3), (4, .ref 112)], [.int (1 : Int32)], st_mm t)) rfl ?_
      exact bi_Tv rfl rfl (Or.inl ⟨_, _, rfl, h⟩)
    have h := h.2 he
    by_cases he : e = 101
    · rw [he]; have h := h.1 he
      refine bi_Tr 1 (s' := (22, [(0, .ref 0), (1, .int x1), (2, .int x2), (3, .int x3), (4, .ref 112)], [.int (2 : Int32)], st_mm t)) rfl ?_
      exact bi_Tv rfl rfl (Or.inl ⟨_, _, rfl, h⟩)
    have h := h.2 he
    exact h.elim
/-- PolicyRowsLaw.years(LPolicyRows;III[J)I -/
theorem en_L_years {X : bi_X} {d : Nat} {K : Int32 → bi_St → Prop} {E : Nat → bi_St → Prop} {s : bi_St} {x1 : Int32} {x2 : Int32} {x3 : Int32}  (h : cI X d 149 [.ref 0, .int x1, .int x2, .int x3] s (fun (r1 : Int32) (s1 : bi_St) => bi_in (0 : Int32) 1 = true ∧ (K (0 : Int32) (st_pl s1 112 ((0 : Int32)).toNatClampNeg (r1).toInt64))) (fun (e : Nat) (t : bi_St) => ((e = 100) → K (1 : Int32) t) ∧ (¬ (e = 100) → ((e = 101) → K (2 : Int32) t) ∧ (¬ (e = 101) → False)))) : cI X (d + 1) 293 [.ref 0, .int x1, .int x2, .int x3, .ref 112] s K E := by
  show bi_T _ _ _ _ _
  refine bi_Tr 6 (s' := (7, [(0, .ref 0), (1, .int x1), (2, .int x2), (3, .int x3), (4, .ref 112)], [.int x3, .int x2, .int x1, .ref 0, .int (0 : Int32), .ref 112], st_mm s)) rfl ?_
  refine bi_TcI (as := [.ref 0, .int x1, .int x2, .int x3]) rfl rfl ?_
  refine cI.mono h (fun r1 s1 h => ?_) (fun e t h => ?_)
  · skip
    refine bi_Tr 1 (s' := (11, [(0, .ref 0), (1, .int x1), (2, .int x2), (3, .int x3), (4, .ref 112)], [.long (r1).toInt64, .int (0 : Int32), .ref 112], st_mm s1)) rfl ?_
    obtain ⟨hi, h⟩ := h
    refine bi_Tlas rfl rfl hi ?_
    refine bi_Tr 2 (s' := (24, [(0, .ref 0), (1, .int x1), (2, .int x2), (3, .int x3), (4, .ref 112)], [.int (0 : Int32)], st_mm (st_pl s1 112 ((0 : Int32)).toNatClampNeg (r1).toInt64))) rfl ?_
    exact bi_Tv rfl rfl (Or.inl ⟨_, _, rfl, h⟩)
  · skip
    by_cases he : e = 100
    · rw [he]; have h := h.1 he
      refine bi_Tr 1 (s' := (18, [(0, .ref 0), (1, .int x1), (2, .int x2), (3, .int x3), (4, .ref 112)], [.int (1 : Int32)], st_mm t)) rfl ?_
      exact bi_Tv rfl rfl (Or.inl ⟨_, _, rfl, h⟩)
    have h := h.2 he
    by_cases he : e = 101
    · rw [he]; have h := h.1 he
      refine bi_Tr 1 (s' := (22, [(0, .ref 0), (1, .int x1), (2, .int x2), (3, .int x3), (4, .ref 112)], [.int (2 : Int32)], st_mm t)) rfl ?_
      exact bi_Tv rfl rfl (Or.inl ⟨_, _, rfl, h⟩)
    have h := h.2 he
    exact h.elim
def at_L_law_23 (X : bi_X) (d : Nat) (K : Int32 → bi_St → Prop) (E : Nat → bi_St → Prop) (s : bi_St) (y4 : Int32) : Prop := bi_T X d 294 (23, [(0, .ref 4999), (1, .ref 0), (2, .ref 77), (3, .ref 112), (4, .int y4)], [], st_mm s) (st_RI K E)
theorem go_L_law_23 {X : bi_X} {d : Nat} {K : Int32 → bi_St → Prop} {E : Nat → bi_St → Prop}  {s : bi_St} {y4 : Int32}  (h : ((((Int32.ofNat X.1) - (6 : Int32)) < y4) → K (1 : Int32) s) ∧ (¬ (((Int32.ofNat X.1) - (6 : Int32)) < y4) → bi_in y4 X.1 = true ∧ (((((X.2 (y4).toNatClampNeg) &&& (31 : Int32)) = (0 : Int32)) → bi_in (y4 + (1 : Int32)) X.1 = true ∧ (bi_in (y4 + (2 : Int32)) X.1 = true ∧ (bi_in (y4 + (3 : Int32)) X.1 = true ∧ (bi_in (y4 + (4 : Int32)) X.1 = true ∧ (bi_in (y4 + (5 : Int32)) X.1 = true ∧ (cI X d 123 [.ref 0, .int (X.2 ((y4 + (1 : Int32))).toNatClampNeg), .int (X.2 ((y4 + (2 : Int32))).toNatClampNeg), .int (X.2 ((y4 + (3 : Int32))).toNatClampNeg), .int (X.2 ((y4 + (4 : Int32))).toNatClampNeg), .int (X.2 ((y4 + (5 : Int32))).toNatClampNeg)] s (fun (r1 : Int32) (s1 : bi_St) => bi_in (y4 + (1 : Int32)) X.1 = true ∧ (bi_in (y4 + (2 : Int32)) X.1 = true ∧ (bi_in (y4 + (3 : Int32)) X.1 = true ∧ (bi_in (y4 + (4 : Int32)) X.1 = true ∧ (bi_in (y4 + (5 : Int32)) X.1 = true ∧ (cI X d 167 [.ref 77, .int (X.2 ((y4 + (1 : Int32))).toNatClampNeg), .int (X.2 ((y4 + (2 : Int32))).toNatClampNeg), .int (X.2 ((y4 + (3 : Int32))).toNatClampNeg), .int (X.2 ((y4 + (4 : Int32))).toNatClampNeg), .int (X.2 ((y4 + (5 : Int32))).toNatClampNeg)] s1 (fun (r2 : Int32) (s2 : bi_St) => ((r1 = r2) → at_L_law_23 X (d + 1) K E s2 ((y4 + (6 : Int32)))) ∧ (¬ (r1 = r2) → K (0 : Int32) s2)) (fun _ _ => False))))))) (fun _ _ => False))))))) ∧ (¬ (((X.2 (y4).toNatClampNeg) &&& (31 : Int32)) = (0 : Int32)) → ((((X.2 (y4).toNatClampNeg) &&& (31 : Int32)) = (1 : Int32)) → bi_in (y4 + (1 : Int32)) X.1 = true ∧ (cI X d 271 [.ref 0, .int (X.2 ((y4 + (1 : Int32))).toNatClampNeg), .ref 112] s (fun (r3 : Int32) (s3 : bi_St) => bi_in (y4 + (1 : Int32)) X.1 = true ∧ (cI X d 202 [.ref 77, .int (X.2 ((y4 + (1 : Int32))).toNatClampNeg)] s3 (fun (r4 : Int32) (s4 : bi_St) => cI X d 162 [.ref 77] s4 (fun (r5 : Int32) (s5 : bi_St) => ((r5 = r3) → ((¬ r3 = 0) → at_L_law_23 X (d + 1) K E s5 ((y4 + (6 : Int32)))) ∧ (¬ (¬ r3 = 0) → bi_in (0 : Int32) 1 = true ∧ ((((lg_cmp (st_gl s5 112 ((0 : Int32)).toNatClampNeg) (r4).toInt64) = 0) → at_L_law_23 X (d + 1) K E s5 ((y4 + (6 : Int32)))) ∧ (¬ ((lg_cmp (st_gl s5 112 ((0 : Int32)).toNatClampNeg) (r4).toInt64) = 0) → K (0 : Int32) s5)))) ∧ (¬ (r5 = r3) → K (0 : Int32) s5)) (fun _ _ => False)) (fun _ _ => False))) (fun _ _ => False))) ∧ (¬ (((X.2 (y4).toNatClampNeg) &&& (31 : Int32)) = (1 : Int32)) → ((((X.2 (y4).toNatClampNeg) &&& (31 : Int32)) = (2 : Int32)) → bi_in (y4 + (1 : Int32)) X.1 = true ∧ (bi_in (y4 + (2 : Int32)) X.1 = true ∧ (bi_in (y4 + (3 : Int32)) X.1 = true ∧ (cI X d 272 [.ref 0, .int (X.2 ((y4 + (1 : Int32))).toNatClampNeg), .int (X.2 ((y4 + (2 : Int32))).toNatClampNeg), .int (X.2 ((y4 + (3 : Int32))).toNatClampNeg), .ref 112] s (fun (r6 : Int32) (s6 : bi_St) => bi_in (y4 + (1 : Int32)) X.1 = true ∧ (bi_in (y4 + (2 : Int32)) X.1 = true ∧ (bi_in (y4 + (3 : Int32)) X.1 = true ∧ (cI X d 237 [.ref 77, .int (X.2 ((y4 + (1 : Int32))).toNatClampNeg), .int (X.2 ((y4 + (2 : Int32))).toNatClampNeg), .int (X.2 ((y4 + (3 : Int32))).toNatClampNeg)] s6 (fun (r7 : Int32) (s7 : bi_St) => cI X d 162 [.ref 77] s7 (fun (r8 : Int32) (s8 : bi_St) => ((r8 = r6) → ((¬ r6 = 0) → at_L_law_23 X (d + 1) K E s8 ((y4 + (6 : Int32)))) ∧ (¬ (¬ r6 = 0) → bi_in (0 : Int32) 1 = true ∧ ((((lg_cmp (st_gl s8 112 ((0 : Int32)).toNatClampNeg) (r7).toInt64) = 0) → at_L_law_23 X (d + 1) K E s8 ((y4 + (6 : Int32)))) ∧ (¬ ((lg_cmp (st_gl s8 112 ((0 : Int32)).toNatClampNeg) (r7).toInt64) = 0) → K (0 : Int32) s8)))) ∧ (¬ (r8 = r6) → K (0 : Int32) s8)) (fun _ _ => False)) (fun _ _ => False))))) (fun _ _ => False))))) ∧ (¬ (((X.2 (y4).toNatClampNeg) &&& (31 : Int32)) = (2 : Int32)) → ((((X.2 (y4).toNatClampNeg) &&& (31 : Int32)) = (3 : Int32)) → cI X d 126 [.ref 0] s (fun (r9 : Int32) (s9 : bi_St) => cI X d 203 [.ref 77] s9 (fun (r10 : Int32) (s10 : bi_St) => ((r9 = r10) → at_L_law_23 X (d + 1) K E s10 ((y4 + (6 : Int32)))) ∧ (¬ (r9 = r10) → K (0 : Int32) s10)) (fun _ _ => False)) (fun _ _ => False)) ∧ (¬ (((X.2 (y4).toNatClampNeg) &&& (31 : Int32)) = (3 : Int32)) → ((((X.2 (y4).toNatClampNeg) &&& (31 : Int32)) = (4 : Int32)) → bi_in (y4 + (1 : Int32)) X.1 = true ∧ (cI X d 273 [.ref 0, .int (X.2 ((y4 + (1 : Int32))).toNatClampNeg), .ref 112] s (fun (r11 : Int32) (s11 : bi_St) => bi_in (y4 + (1 : Int32)) X.1 = true ∧ (cI X d 221 [.ref 77, .int (X.2 ((y4 + (1 : Int32))).toNatClampNeg)] s11 (fun (r12 : Int32) (s12 : bi_St) => cI X d 162 [.ref 77] s12 (fun (r13 : Int32) (s13 : bi_St) => ((r13 = r11) → ((¬ r11 = 0) → at_L_law_23 X (d + 1) K E s13 ((y4 + (6 : Int32)))) ∧ (¬ (¬ r11 = 0) → bi_in (0 : Int32) 1 = true ∧ ((((lg_cmp (st_gl s13 112 ((0 : Int32)).toNatClampNeg) (r12).toInt64) = 0) → at_L_law_23 X (d + 1) K E s13 ((y4 + (6 : Int32)))) ∧ (¬ ((lg_cmp (st_gl s13 112 ((0 : Int32)).toNatClampNeg) (r12).toInt64) = 0) → K (0 : Int32) s13)))) ∧ (¬ (r13 = r11) → K (0 : Int32) s13)) (fun _ _ => False)) (fun _ _ => False))) (fun _ _ => False))) ∧ (¬ (((X.2 (y4).toNatClampNeg) &&& (31 : Int32)) = (4 : Int32)) → ((((X.2 (y4).toNatClampNeg) &&& (31 : Int32)) = (5 : Int32)) → bi_in (y4 + (1 : Int32)) X.1 = true ∧ (bi_in (y4 + (2 : Int32)) X.1 = true ∧ (cI X d 274 [.ref 0, .int (X.2 ((y4 + (1 : Int32))).toNatClampNeg), .int (X.2 ((y4 + (2 : Int32))).toNatClampNeg), .ref 112] s (fun (r14 : Int32) (s14 : bi_St) => bi_in (y4 + (1 : Int32)) X.1 = true ∧ (bi_in (y4 + (2 : Int32)) X.1 = true ∧ (cI X d 226 [.ref 77, .int (X.2 ((y4 + (1 : Int32))).toNatClampNeg), .int (X.2 ((y4 + (2 : Int32))).toNatClampNeg)] s14 (fun (r15 : Int32) (s15 : bi_St) => cI X d 162 [.ref 77] s15 (fun (r16 : Int32) (s16 : bi_St) => ((r16 = r14) → ((¬ r14 = 0) → at_L_law_23 X (d + 1) K E s16 ((y4 + (6 : Int32)))) ∧ (¬ (¬ r14 = 0) → bi_in (0 : Int32) 1 = true ∧ ((((lg_cmp (st_gl s16 112 ((0 : Int32)).toNatClampNeg) (r15).toInt64) = 0) → at_L_law_23 X (d + 1) K E s16 ((y4 + (6 : Int32)))) ∧ (¬ ((lg_cmp (st_gl s16 112 ((0 : Int32)).toNatClampNeg) (r15).toInt64) = 0) → K (0 : Int32) s16)))) ∧ (¬ (r16 = r14) → K (0 : Int32) s16)) (fun _ _ => False)) (fun _ _ => False)))) (fun _ _ => False)))) ∧ (¬ (((X.2 (y4).toNatClampNeg) &&& (31 : Int32)) = (5 : Int32)) → ((((X.2 (y4).toNatClampNeg) &&& (31 : Int32)) = (6 : Int32)) → bi_in (y4 + (1 : Int32)) X.1 = true ∧ (bi_in (y4 + (2 : Int32)) X.1 = true ∧ (cI X d 275 [.ref 0, .int (X.2 ((y4 + (1 : Int32))).toNatClampNeg), .int (X.2 ((y4 + (2 : Int32))).toNatClampNeg), .ref 112] s (fun (r17 : Int32) (s17 : bi_St) => bi_in (y4 + (1 : Int32)) X.1 = true ∧ (bi_in (y4 + (2 : Int32)) X.1 = true ∧ (cI X d 227 [.ref 77, .int (X.2 ((y4 + (1 : Int32))).toNatClampNeg), .int (X.2 ((y4 + (2 : Int32))).toNatClampNeg)] s17 (fun (r18 : Int32) (s18 : bi_St) => cI X d 162 [.ref 77] s18 (fun (r19 : Int32) (s19 : bi_St) => ((r19 = r17) → ((¬ r17 = 0) → at_L_law_23 X (d + 1) K E s19 ((y4 + (6 : Int32)))) ∧ (¬ (¬ r17 = 0) → bi_in (0 : Int32) 1 = true ∧ ((((lg_cmp (st_gl s19 112 ((0 : Int32)).toNatClampNeg) (r18).toInt64) = 0) → at_L_law_23 X (d + 1) K E s19 ((y4 + (6 : Int32)))) ∧ (¬ ((lg_cmp (st_gl s19 112 ((0 : Int32)).toNatClampNeg) (r18).toInt64) = 0) → K (0 : Int32) s19)))) ∧ (¬ (r19 = r17) → K (0 : Int32) s19)) (fun _ _ => False)) (fun _ _ => False)))) (fun _ _ => False)))) ∧ (¬ (((X.2 (y4).toNatClampNeg) &&& (31 : Int32)) = (6 : Int32)) → ((((X.2 (y4).toNatClampNeg) &&& (31 : Int32)) = (7 : Int32)) → bi_in (y4 + (1 : Int32)) X.1 = true ∧ (bi_in (y4 + (2 : Int32)) X.1 = true ∧ (cI X d 276 [.ref 0, .int (X.2 ((y4 + (1 : Int32))).toNatClampNeg), .int (X.2 ((y4 + (2 : Int32))).toNatClampNeg), .ref 112] s (fun (r20 : Int32) (s20 : bi_St) => bi_in (y4 + (1 : Int32)) X.1 = true ∧ (bi_in (y4 + (2 : Int32)) X.1 = true ∧ (cI X d 228 [.ref 77, .int (X.2 ((y4 + (1 : Int32))).toNatClampNeg), .int (X.2 ((y4 + (2 : Int32))).toNatClampNeg)] s20 (fun (r21 : Int32) (s21 : bi_St) => cI X d 162 [.ref 77] s21 (fun (r22 : Int32) (s22 : bi_St) => ((r22 = r20) → ((¬ r20 = 0) → at_L_law_23 X (d + 1) K E s22 ((y4 + (6 : Int32)))) ∧ (¬ (¬ r20 = 0) → bi_in (0 : Int32) 1 = true ∧ ((((lg_cmp (st_gl s22 112 ((0 : Int32)).toNatClampNeg) (r21).toInt64) = 0) → at_L_law_23 X (d + 1) K E s22 ((y4 + (6 : Int32)))) ∧ (¬ ((lg_cmp (st_gl s22 112 ((0 : Int32)).toNatClampNeg) (r21).toInt64) = 0) → K (0 : Int32) s22)))) ∧ (¬ (r22 = r20) → K (0 : Int32) s22)) (fun _ _ => False)) (fun _ _ => False)))) (fun _ _ => False)))) ∧ (¬ (((X.2 (y4).toNatClampNeg) &&& (31 : Int32)) = (7 : Int32)) → ((((X.2 (y4).toNatClampNeg) &&& (31 : Int32)) = (8 : Int32)) → bi_in (y4 + (1 : Int32)) X.1 = true ∧ (bi_in (y4 + (2 : Int32)) X.1 = true ∧ (cI X d 277 [.ref 0, .int (X.2 ((y4 + (1 : Int32))).toNatClampNeg), .int (X.2 ((y4 + (2 : Int32))).toNatClampNeg), .ref 112] s (fun (r23 : Int32) (s23 : bi_St) => bi_in (y4 + (1 : Int32)) X.1 = true ∧ (bi_in (y4 + (2 : Int32)) X.1 = true ∧ (cI X d 229 [.ref 77, .int (X.2 ((y4 + (1 : Int32))).toNatClampNeg), .int (X.2 ((y4 + (2 : Int32))).toNatClampNeg)] s23 (fun (r24 : Int32) (s24 : bi_St) => cI X d 162 [.ref 77] s24 (fun (r25 : Int32) (s25 : bi_St) => ((r25 = r23) → ((¬ r23 = 0) → at_L_law_23 X (d + 1) K E s25 ((y4 + (6 : Int32)))) ∧ (¬ (¬ r23 = 0) → bi_in (0 : Int32) 1 = true ∧ ((((lg_cmp (st_gl s25 112 ((0 : Int32)).toNatClampNeg) (r24).toInt64) = 0) → at_L_law_23 X (d + 1) K E s25 ((y4 + (6 : Int32)))) ∧ (¬ ((lg_cmp (st_gl s25 112 ((0 : Int32)).toNatClampNeg) (r24).toInt64) = 0) → K (0 : Int32) s25)))) ∧ (¬ (r25 = r23) → K (0 : Int32) s25)) (fun _ _ => False)) (fun _ _ => False)))) (fun _ _ => False)))) ∧ (¬ (((X.2 (y4).toNatClampNeg) &&& (31 : Int32)) = (8 : Int32)) → ((((X.2 (y4).toNatClampNeg) &&& (31 : Int32)) = (9 : Int32)) → bi_in (y4 + (1 : Int32)) X.1 = true ∧ (cI X d 278 [.ref 0, .int (X.2 ((y4 + (1 : Int32))).toNatClampNeg), .ref 112] s (fun (r26 : Int32) (s26 : bi_St) => bi_in (y4 + (1 : Int32)) X.1 = true ∧ (cI X d 238 [.ref 77, .int (X.2 ((y4 + (1 : Int32))).toNatClampNeg)] s26 (fun (r27 : Int32) (s27 : bi_St) => cI X d 162 [.ref 77] s27 (fun (r28 : Int32) (s28 : bi_St) => ((r28 = r26) → ((¬ r26 = 0) → at_L_law_23 X (d + 1) K E s28 ((y4 + (6 : Int32)))) ∧ (¬ (¬ r26 = 0) → bi_in (0 : Int32) 1 = true ∧ ((((lg_cmp (st_gl s28 112 ((0 : Int32)).toNatClampNeg) (r27).toInt64) = 0) → at_L_law_23 X (d + 1) K E s28 ((y4 + (6 : Int32)))) ∧ (¬ ((lg_cmp (st_gl s28 112 ((0 : Int32)).toNatClampNeg) (r27).toInt64) = 0) → K (0 : Int32) s28)))) ∧ (¬ (r28 = r26) → K (0 : Int32) s28)) (fun _ _ => False)) (fun _ _ => False))) (fun _ _ => False))) ∧ (¬ (((X.2 (y4).toNatClampNeg) &&& (31 : Int32)) = (9 : Int32)) → ((((X.2 (y4).toNatClampNeg) &&& (31 : Int32)) = (10 : Int32)) → bi_in (y4 + (1 : Int32)) X.1 = true ∧ (bi_in (y4 + (2 : Int32)) X.1 = true ∧ (cI X d 279 [.ref 0, .int (X.2 ((y4 + (1 : Int32))).toNatClampNeg), .int (X.2 ((y4 + (2 : Int32))).toNatClampNeg), .ref 112] s (fun (r29 : Int32) (s29 : bi_St) => bi_in (y4 + (1 : Int32)) X.1 = true ∧ (bi_in (y4 + (2 : Int32)) X.1 = true ∧ (cI X d 239 [.ref 77, .int (X.2 ((y4 + (1 : Int32))).toNatClampNeg), .int (X.2 ((y4 + (2 : Int32))).toNatClampNeg)] s29 (fun (r30 : Int32) (s30 : bi_St) => cI X d 162 [.ref 77] s30 (fun (r31 : Int32) (s31 : bi_St) => ((r31 = r29) → ((¬ r29 = 0) → at_L_law_23 X (d + 1) K E s31 ((y4 + (6 : Int32)))) ∧ (¬ (¬ r29 = 0) → bi_in (0 : Int32) 1 = true ∧ ((((lg_cmp (st_gl s31 112 ((0 : Int32)).toNatClampNeg) (r30).toInt64) = 0) → at_L_law_23 X (d + 1) K E s31 ((y4 + (6 : Int32)))) ∧ (¬ ((lg_cmp (st_gl s31 112 ((0 : Int32)).toNatClampNeg) (r30).toInt64) = 0) → K (0 : Int32) s31)))) ∧ (¬ (r31 = r29) → K (0 : Int32) s31)) (fun _ _ => False)) (fun _ _ => False)))) (fun _ _ => False)))) ∧ (¬ (((X.2 (y4).toNatClampNeg) &&& (31 : Int32)) = (10 : Int32)) → ((((X.2 (y4).toNatClampNeg) &&& (31 : Int32)) = (11 : Int32)) → bi_in (y4 + (1 : Int32)) X.1 = true ∧ (bi_in (y4 + (2 : Int32)) X.1 = true ∧ (bi_in (y4 + (3 : Int32)) X.1 = true ∧ (bi_in (y4 + (4 : Int32)) X.1 = true ∧ (bi_in (y4 + (5 : Int32)) X.1 = true ∧ (cI X d 280 [.ref 0, .int (X.2 ((y4 + (1 : Int32))).toNatClampNeg), .int (X.2 ((y4 + (2 : Int32))).toNatClampNeg), .int (X.2 ((y4 + (3 : Int32))).toNatClampNeg), .int (X.2 ((y4 + (4 : Int32))).toNatClampNeg), .int (X.2 ((y4 + (5 : Int32))).toNatClampNeg), .ref 112] s (fun (r32 : Int32) (s32 : bi_St) => bi_in (y4 + (1 : Int32)) X.1 = true ∧ (bi_in (y4 + (2 : Int32)) X.1 = true ∧ (bi_in (y4 + (3 : Int32)) X.1 = true ∧ (bi_in (y4 + (4 : Int32)) X.1 = true ∧ (bi_in (y4 + (5 : Int32)) X.1 = true ∧ (cI X d 245 [.ref 77, .int (X.2 ((y4 + (1 : Int32))).toNatClampNeg), .int (X.2 ((y4 + (2 : Int32))).toNatClampNeg), .int (X.2 ((y4 + (3 : Int32))).toNatClampNeg), .int (X.2 ((y4 + (4 : Int32))).toNatClampNeg), .int (X.2 ((y4 + (5 : Int32))).toNatClampNeg)] s32 (fun (r33 : Int32) (s33 : bi_St) => cI X d 162 [.ref 77] s33 (fun (r34 : Int32) (s34 : bi_St) => ((r34 = r32) → ((¬ r32 = 0) → at_L_law_23 X (d + 1) K E s34 ((y4 + (6 : Int32)))) ∧ (¬ (¬ r32 = 0) → bi_in (0 : Int32) 1 = true ∧ ((((lg_cmp (st_gl s34 112 ((0 : Int32)).toNatClampNeg) (r33).toInt64) = 0) → at_L_law_23 X (d + 1) K E s34 ((y4 + (6 : Int32)))) ∧ (¬ ((lg_cmp (st_gl s34 112 ((0 : Int32)).toNatClampNeg) (r33).toInt64) = 0) → K (0 : Int32) s34)))) ∧ (¬ (r34 = r32) → K (0 : Int32) s34)) (fun _ _ => False)) (fun _ _ => False))))))) (fun _ _ => False))))))) ∧ (¬ (((X.2 (y4).toNatClampNeg) &&& (31 : Int32)) = (11 : Int32)) → ((((X.2 (y4).toNatClampNeg) &&& (31 : Int32)) = (12 : Int32)) → bi_in (y4 + (1 : Int32)) X.1 = true ∧ (bi_in (y4 + (2 : Int32)) X.1 = true ∧ (bi_in (y4 + (3 : Int32)) X.1 = true ∧ (bi_in (y4 + (4 : Int32)) X.1 = true ∧ (cI X d 281 [.ref 0, .int (X.2 ((y4 + (1 : Int32))).toNatClampNeg), .int (X.2 ((y4 + (2 : Int32))).toNatClampNeg), .int (X.2 ((y4 + (3 : Int32))).toNatClampNeg), .int (X.2 ((y4 + (4 : Int32))).toNatClampNeg), .ref 112] s (fun (r35 : Int32) (s35 : bi_St) => bi_in (y4 + (1 : Int32)) X.1 = true ∧ (bi_in (y4 + (2 : Int32)) X.1 = true ∧ (bi_in (y4 + (3 : Int32)) X.1 = true ∧ (bi_in (y4 + (4 : Int32)) X.1 = true ∧ (cI X d 246 [.ref 77, .int (X.2 ((y4 + (1 : Int32))).toNatClampNeg), .int (X.2 ((y4 + (2 : Int32))).toNatClampNeg), .int (X.2 ((y4 + (3 : Int32))).toNatClampNeg), .int (X.2 ((y4 + (4 : Int32))).toNatClampNeg)] s35 (fun (r36 : Int32) (s36 : bi_St) => cI X d 162 [.ref 77] s36 (fun (r37 : Int32) (s37 : bi_St) => ((r37 = r35) → ((¬ r35 = 0) → at_L_law_23 X (d + 1) K E s37 ((y4 + (6 : Int32)))) ∧ (¬ (¬ r35 = 0) → bi_in (0 : Int32) 1 = true ∧ ((((lg_cmp (st_gl s37 112 ((0 : Int32)).toNatClampNeg) (r36).toInt64) = 0) → at_L_law_23 X (d + 1) K E s37 ((y4 + (6 : Int32)))) ∧ (¬ ((lg_cmp (st_gl s37 112 ((0 : Int32)).toNatClampNeg) (r36).toInt64) = 0) → K (0 : Int32) s37)))) ∧ (¬ (r37 = r35) → K (0 : Int32) s37)) (fun _ _ => False)) (fun _ _ => False)))))) (fun _ _ => False)))))) ∧ (¬ (((X.2 (y4).toNatClampNeg) &&& (31 : Int32)) = (12 : Int32)) → ((((X.2 (y4).toNatClampNeg) &&& (31 : Int32)) = (13 : Int32)) → bi_in (y4 + (1 : Int32)) X.1 = true ∧ (bi_in (y4 + (2 : Int32)) X.1 = true ∧ (cI X d 282 [.ref 0, .int (X.2 ((y4 + (1 : Int32))).toNatClampNeg), .int (X.2 ((y4 + (2 : Int32))).toNatClampNeg), .ref 112] s (fun (r38 : Int32) (s38 : bi_St) => bi_in (y4 + (1 : Int32)) X.1 = true ∧ (bi_in (y4 + (2 : Int32)) X.1 = true ∧ (cI X d 247 [.ref 77, .int (X.2 ((y4 + (1 : Int32))).toNatClampNeg), .int (X.2 ((y4 + (2 : Int32))).toNatClampNeg)] s38 (fun (r39 : Int32) (s39 : bi_St) => cI X d 162 [.ref 77] s39 (fun (r40 : Int32) (s40 : bi_St) => ((r40 = r38) → ((¬ r38 = 0) → at_L_law_23 X (d + 1) K E s40 ((y4 + (6 : Int32)))) ∧ (¬ (¬ r38 = 0) → bi_in (0 : Int32) 1 = true ∧ ((((lg_cmp (st_gl s40 112 ((0 : Int32)).toNatClampNeg) (r39).toInt64) = 0) → at_L_law_23 X (d + 1) K E s40 ((y4 + (6 : Int32)))) ∧ (¬ ((lg_cmp (st_gl s40 112 ((0 : Int32)).toNatClampNeg) (r39).toInt64) = 0) → K (0 : Int32) s40)))) ∧ (¬ (r40 = r38) → K (0 : Int32) s40)) (fun _ _ => False)) (fun _ _ => False)))) (fun _ _ => False)))) ∧ (¬ (((X.2 (y4).toNatClampNeg) &&& (31 : Int32)) = (13 : Int32)) → ((((X.2 (y4).toNatClampNeg) &&& (31 : Int32)) = (14 : Int32)) → bi_in (y4 + (1 : Int32)) X.1 = true ∧ (bi_in (y4 + (2 : Int32)) X.1 = true ∧ (bi_in (y4 + (3 : Int32)) X.1 = true ∧ ((((X.2 ((y4 + (3 : Int32))).toNatClampNeg) = 0) → cI X d 283 [.ref 0, .int (X.2 ((y4 + (1 : Int32))).toNatClampNeg), .int (X.2 ((y4 + (2 : Int32))).toNatClampNeg), .int (0 : Int32), .ref 112] s (fun (r41 : Int32) (s41 : bi_St) => bi_in (y4 + (1 : Int32)) X.1 = true ∧ (bi_in (y4 + (2 : Int32)) X.1 = true ∧ (bi_in (y4 + (3 : Int32)) X.1 = true ∧ ((((X.2 ((y4 + (3 : Int32))).toNatClampNeg) = 0) → cI X d 248 [.ref 77, .int (X.2 ((y4 + (1 : Int32))).toNatClampNeg), .int (X.2 ((y4 + (2 : Int32))).toNatClampNeg), .int (0 : Int32)] s41 (fun (r42 : Int32) (s42 : bi_St) => cI X d 162 [.ref 77] s42 (fun (r43 : Int32) (s43 : bi_St) => ((r43 = r41) → ((¬ r41 = 0) → at_L_law_23 X (d + 1) K E s43 ((y4 + (6 : Int32)))) ∧ (¬ (¬ r41 = 0) → bi_in (0 : Int32) 1 = true ∧ (((r42 = 0) → (((lg_cmp (st_gl s43 112 ((0 : Int32)).toNatClampNeg) (0 : Int64)) = 0) → at_L_law_23 X (d + 1) K E s43 ((y4 + (6 : Int32)))) ∧ (¬ ((lg_cmp (st_gl s43 112 ((0 : Int32)).toNatClampNeg) (0 : Int64)) = 0) → K (0 : Int32) s43)) ∧ (¬ (r42 = 0) → (((lg_cmp (st_gl s43 112 ((0 : Int32)).toNatClampNeg) (1 : Int64)) = 0) → at_L_law_23 X (d + 1) K E s43 ((y4 + (6 : Int32)))) ∧ (¬ ((lg_cmp (st_gl s43 112 ((0 : Int32)).toNatClampNeg) (1 : Int64)) = 0) → K (0 : Int32) s43))))) ∧ (¬ (r43 = r41) → K (0 : Int32) s43)) (fun _ _ => False)) (fun _ _ => False)) ∧ (¬ ((X.2 ((y4 + (3 : Int32))).toNatClampNeg) = 0) → cI X d 248 [.ref 77, .int (X.2 ((y4 + (1 : Int32))).toNatClampNeg), .int (X.2 ((y4 + (2 : Int32))).toNatClampNeg), .int (1 : Int32)] s41 (fun (r44 : Int32) (s44 : bi_St) => cI X d 162 [.ref 77] s44 (fun (r45 : Int32) (s45 : bi_St) => ((r45 = r41) → ((¬ r41 = 0) → at_L_law_23 X (d + 1) K E s45 ((y4 + (6 : Int32)))) ∧ (¬ (¬ r41 = 0) → bi_in (0 : Int32) 1 = true ∧ (((r44 = 0) → (((lg_cmp (st_gl s45 112 ((0 : Int32)).toNatClampNeg) (0 : Int64)) = 0) → at_L_law_23 X (d + 1) K E s45 ((y4 + (6 : Int32)))) ∧ (¬ ((lg_cmp (st_gl s45 112 ((0 : Int32)).toNatClampNeg) (0 : Int64)) = 0) → K (0 : Int32) s45)) ∧ (¬ (r44 = 0) → (((lg_cmp (st_gl s45 112 ((0 : Int32)).toNatClampNeg) (1 : Int64)) = 0) → at_L_law_23 X (d + 1) K E s45 ((y4 + (6 : Int32)))) ∧ (¬ ((lg_cmp (st_gl s45 112 ((0 : Int32)).toNatClampNeg) (1 : Int64)) = 0) → K (0 : Int32) s45))))) ∧ (¬ (r45 = r41) → K (0 : Int32) s45)) (fun _ _ => False)) (fun _ _ => False)))))) (fun _ _ => False)) ∧ (¬ ((X.2 ((y4 + (3 : Int32))).toNatClampNeg) = 0) → cI X d 283 [.ref 0, .int (X.2 ((y4 + (1 : Int32))).toNatClampNeg), .int (X.2 ((y4 + (2 : Int32))).toNatClampNeg), .int (1 : Int32), .ref 112] s (fun (r46 : Int32) (s46 : bi_St) => bi_in (y4 + (1 : Int32)) X.1 = true ∧ (bi_in (y4 + (2 : Int32)) X.1 = true ∧ (bi_in (y4 + (3 : Int32)) X.1 = true ∧ ((((X.2 ((y4 + (3 : Int32))).toNatClampNeg) = 0) → cI X d 248 [.ref 77, .int (X.2 ((y4 + (1 : Int32))).toNatClampNeg), .int (X.2 ((y4 + (2 : Int32))).toNatClampNeg), .int (0 : Int32)] s46 (fun (r47 : Int32) (s47 : bi_St) => cI X d 162 [.ref 77] s47 (fun (r48 : Int32) (s48 : bi_St) => ((r48 = r46) → ((¬ r46 = 0) → at_L_law_23 X (d + 1) K E s48 ((y4 + (6 : Int32)))) ∧ (¬ (¬ r46 = 0) → bi_in (0 : Int32) 1 = true ∧ (((r47 = 0) → (((lg_cmp (st_gl s48 112 ((0 : Int32)).toNatClampNeg) (0 : Int64)) = 0) → at_L_law_23 X (d + 1) K E s48 ((y4 + (6 : Int32)))) ∧ (¬ ((lg_cmp (st_gl s48 112 ((0 : Int32)).toNatClampNeg) (0 : Int64)) = 0) → K (0 : Int32) s48)) ∧ (¬ (r47 = 0) → (((lg_cmp (st_gl s48 112 ((0 : Int32)).toNatClampNeg) (1 : Int64)) = 0) → at_L_law_23 X (d + 1) K E s48 ((y4 + (6 : Int32)))) ∧ (¬ ((lg_cmp (st_gl s48 112 ((0 : Int32)).toNatClampNeg) (1 : Int64)) = 0) → K (0 : Int32) s48))))) ∧ (¬ (r48 = r46) → K (0 : Int32) s48)) (fun _ _ => False)) (fun _ _ => False)) ∧ (¬ ((X.2 ((y4 + (3 : Int32))).toNatClampNeg) = 0) → cI X d 248 [.ref 77, .int (X.2 ((y4 + (1 : Int32))).toNatClampNeg), .int (X.2 ((y4 + (2 : Int32))).toNatClampNeg), .int (1 : Int32)] s46 (fun (r49 : Int32) (s49 : bi_St) => cI X d 162 [.ref 77] s49 (fun (r50 : Int32) (s50 : bi_St) => ((r50 = r46) → ((¬ r46 = 0) → at_L_law_23 X (d + 1) K E s50 ((y4 + (6 : Int32)))) ∧ (¬ (¬ r46 = 0) → bi_in (0 : Int32) 1 = true ∧ (((r49 = 0) → (((lg_cmp (st_gl s50 112 ((0 : Int32)).toNatClampNeg) (0 : Int64)) = 0) → at_L_law_23 X (d + 1) K E s50 ((y4 + (6 : Int32)))) ∧ (¬ ((lg_cmp (st_gl s50 112 ((0 : Int32)).toNatClampNeg) (0 : Int64)) = 0) → K (0 : Int32) s50)) ∧ (¬ (r49 = 0) → (((lg_cmp (st_gl s50 112 ((0 : Int32)).toNatClampNeg) (1 : Int64)) = 0) → at_L_law_23 X (d + 1) K E s50 ((y4 + (6 : Int32)))) ∧ (¬ ((lg_cmp (st_gl s50 112 ((0 : Int32)).toNatClampNeg) (1 : Int64)) = 0) → K (0 : Int32) s50))))) ∧ (¬ (r50 = r46) → K (0 : Int32) s50)) (fun _ _ => False)) (fun _ _ => False)))))) (fun _ _ => False)))))) ∧ (¬ (((X.2 (y4).toNatClampNeg) &&& (31 : Int32)) = (14 : Int32)) → ((((X.2 (y4).toNatClampNeg) &&& (31 : Int32)) = (15 : Int32)) → bi_in (y4 + (1 : Int32)) X.1 = true ∧ (bi_in (y4 + (2 : Int32)) X.1 = true ∧ ((((X.2 ((y4 + (2 : Int32))).toNatClampNeg) = 0) → cI X d 284 [.ref 0, .int (X.2 ((y4 + (1 : Int32))).toNatClampNeg), .int (0 : Int32), .ref 112] s (fun (r51 : Int32) (s51 : bi_St) => bi_in (y4 + (1 : Int32)) X.1 = true ∧ (bi_in (y4 + (2 : Int32)) X.1 = true ∧ ((((X.2 ((y4 + (2 : Int32))).toNatClampNeg) = 0) → cI X d 249 [.ref 77, .int (X.2 ((y4 + (1 : Int32))).toNatClampNeg), .int (0 : Int32)] s51 (fun (r52 : Int32) (s52 : bi_St) => cI X d 162 [.ref 77] s52 (fun (r53 : Int32) (s53 : bi_St) => ((r53 = r51) → ((¬ r51 = 0) → at_L_law_23 X (d + 1) K E s53 ((y4 + (6 : Int32)))) ∧ (¬ (¬ r51 = 0) → bi_in (0 : Int32) 1 = true ∧ (((r52 = 0) → (((lg_cmp (st_gl s53 112 ((0 : Int32)).toNatClampNeg) (0 : Int64)) = 0) → at_L_law_23 X (d + 1) K E s53 ((y4 + (6 : Int32)))) ∧ (¬ ((lg_cmp (st_gl s53 112 ((0 : Int32)).toNatClampNeg) (0 : Int64)) = 0) → K (0 : Int32) s53)) ∧ (¬ (r52 = 0) → (((lg_cmp (st_gl s53 112 ((0 : Int32)).toNatClampNeg) (1 : Int64)) = 0) → at_L_law_23 X (d + 1) K E s53 ((y4 + (6 : Int32)))) ∧ (¬ ((lg_cmp (st_gl s53 112 ((0 : Int32)).toNatClampNeg) (1 : Int64)) = 0) → K (0 : Int32) s53))))) ∧ (¬ (r53 = r51) → K (0 : Int32) s53)) (fun _ _ => False)) (fun _ _ => False)) ∧ (¬ ((X.2 ((y4 + (2 : Int32))).toNatClampNeg) = 0) → cI X d 249 [.ref 77, .int (X.2 ((y4 + (1 : Int32))).toNatClampNeg), .int (1 : Int32)] s51 (fun (r54 : Int32) (s54 : bi_St) => cI X d 162 [.ref 77] s54 (fun (r55 : Int32) (s55 : bi_St) => ((r55 = r51) → ((¬ r51 = 0) → at_L_law_23 X (d + 1) K E s55 ((y4 + (6 : Int32)))) ∧ (¬ (¬ r51 = 0) → bi_in (0 : Int32) 1 = true ∧ (((r54 = 0) → (((lg_cmp (st_gl s55 112 ((0 : Int32)).toNatClampNeg) (0 : Int64)) = 0) → at_L_law_23 X (d + 1) K E s55 ((y4 + (6 : Int32)))) ∧ (¬ ((lg_cmp (st_gl s55 112 ((0 : Int32)).toNatClampNeg) (0 : Int64)) = 0) → K (0 : Int32) s55)) ∧ (¬ (r54 = 0) → (((lg_cmp (st_gl s55 112 ((0 : Int32)).toNatClampNeg) (1 : Int64)) = 0) → at_L_law_23 X (d + 1) K E s55 ((y4 + (6 : Int32)))) ∧ (¬ ((lg_cmp (st_gl s55 112 ((0 : Int32)).toNatClampNeg) (1 : Int64)) = 0) → K (0 : Int32) s55))))) ∧ (¬ (r55 = r51) → K (0 : Int32) s55)) (fun _ _ => False)) (fun _ _ => False))))) (fun _ _ => False)) ∧ (¬ ((X.2 ((y4 + (2 : Int32))).toNatClampNeg) = 0) → cI X d 284 [.ref 0, .int (X.2 ((y4 + (1 : Int32))).toNatClampNeg), .int (1 : Int32), .ref 112] s (fun (r56 : Int32) (s56 : bi_St) => bi_in (y4 + (1 : Int32)) X.1 = true ∧ (bi_in (y4 + (2 : Int32)) X.1 = true ∧ ((((X.2 ((y4 + (2 : Int32))).toNatClampNeg) = 0) → cI X d 249 [.ref 77, .int (X.2 ((y4 + (1 : Int32))).toNatClampNeg), .int (0 : Int32)] s56 (fun (r57 : Int32) (s57 : bi_St) => cI X d 162 [.ref 77] s57 (fun (r58 : Int32) (s58 : bi_St) => ((r58 = r56) → ((¬ r56 = 0) → at_L_law_23 X (d + 1) K E s58 ((y4 + (6 : Int32)))) ∧ (¬ (¬ r56 = 0) → bi_in (0 : Int32) 1 = true ∧ (((r57 = 0) → (((lg_cmp (st_gl s58 112 ((0 : Int32)).toNatClampNeg) (0 : Int64)) = 0) → at_L_law_23 X (d + 1) K E s58 ((y4 + (6 : Int32)))) ∧ (¬ ((lg_cmp (st_gl s58 112 ((0 : Int32)).toNatClampNeg) (0 : Int64)) = 0) → K (0 : Int32) s58)) ∧ (¬ (r57 = 0) → (((lg_cmp (st_gl s58 112 ((0 : Int32)).toNatClampNeg) (1 : Int64)) = 0) → at_L_law_23 X (d + 1) K E s58 ((y4 + (6 : Int32)))) ∧ (¬ ((lg_cmp (st_gl s58 112 ((0 : Int32)).toNatClampNeg) (1 : Int64)) = 0) → K (0 : Int32) s58))))) ∧ (¬ (r58 = r56) → K (0 : Int32) s58)) (fun _ _ => False)) (fun _ _ => False)) ∧ (¬ ((X.2 ((y4 + (2 : Int32))).toNatClampNeg) = 0) → cI X d 249 [.ref 77, .int (X.2 ((y4 + (1 : Int32))).toNatClampNeg), .int (1 : Int32)] s56 (fun (r59 : Int32) (s59 : bi_St) => cI X d 162 [.ref 77] s59 (fun (r60 : Int32) (s60 : bi_St) => ((r60 = r56) → ((¬ r56 = 0) → at_L_law_23 X (d + 1) K E s60 ((y4 + (6 : Int32)))) ∧ (¬ (¬ r56 = 0) → bi_in (0 : Int32) 1 = true ∧ (((r59 = 0) → (((lg_cmp (st_gl s60 112 ((0 : Int32)).toNatClampNeg) (0 : Int64)) = 0) → at_L_law_23 X (d + 1) K E s60 ((y4 + (6 : Int32)))) ∧ (¬ ((lg_cmp (st_gl s60 112 ((0 : Int32)).toNatClampNeg) (0 : Int64)) = 0) → K (0 : Int32) s60)) ∧ (¬ (r59 = 0) → (((lg_cmp (st_gl s60 112 ((0 : Int32)).toNatClampNeg) (1 : Int64)) = 0) → at_L_law_23 X (d + 1) K E s60 ((y4 + (6 : Int32)))) ∧ (¬ ((lg_cmp (st_gl s60 112 ((0 : Int32)).toNatClampNeg) (1 : Int64)) = 0) → K (0 : Int32) s60))))) ∧ (¬ (r60 = r56) → K (0 : Int32) s60)) (fun _ _ => False)) (fun _ _ => False))))) (fun _ _ => False))))) ∧ (¬ (((X.2 (y4).toNatClampNeg) &&& (31 : Int32)) = (15 : Int32)) → ((((X.2 (y4).toNatClampNeg) &&& (31 : Int32)) = (16 : Int32)) → cI X d 139 [.ref 0] s (fun (r61 : Int32) (s61 : bi_St) => cI X d 206 [.ref 77] s61 (fun (r62 : Int32) (s62 : bi_St) => ((r61 = r62) → at_L_law_23 X (d + 1) K E s62 ((y4 + (6 : Int32)))) ∧ (¬ (r61 = r62) → K (0 : Int32) s62)) (fun _ _ => False)) (fun _ _ => False)) ∧ (¬ (((X.2 (y4).toNatClampNeg) &&& (31 : Int32)) = (16 : Int32)) → ((((X.2 (y4).toNatClampNeg) &&& (31 : Int32)) = (17 : Int32)) → bi_in (y4 + (1 : Int32)) X.1 = true ∧ (cI X d 285 [.ref 0, .int (X.2 ((y4 + (1 : Int32))).toNatClampNeg), .ref 112] s (fun (r63 : Int32) (s63 : bi_St) => bi_in (y4 + (1 : Int32)) X.1 = true ∧ (cI X d 250 [.ref 77, .int (X.2 ((y4 + (1 : Int32))).toNatClampNeg)] s63 (fun (r64 : Int32) (s64 : bi_St) => cI X d 162 [.ref 77] s64 (fun (r65 : Int32) (s65 : bi_St) => ((r65 = r63) → ((¬ r63 = 0) → at_L_law_23 X (d + 1) K E s65 ((y4 + (6 : Int32)))) ∧ (¬ (¬ r63 = 0) → bi_in (0 : Int32) 1 = true ∧ ((((lg_cmp (st_gl s65 112 ((0 : Int32)).toNatClampNeg) (r64).toInt64) = 0) → at_L_law_23 X (d + 1) K E s65 ((y4 + (6 : Int32)))) ∧ (¬ ((lg_cmp (st_gl s65 112 ((0 : Int32)).toNatClampNeg) (r64).toInt64) = 0) → K (0 : Int32) s65)))) ∧ (¬ (r65 = r63) → K (0 : Int32) s65)) (fun _ _ => False)) (fun _ _ => False))) (fun _ _ => False))) ∧ (¬ (((X.2 (y4).toNatClampNeg) &&& (31 : Int32)) = (17 : Int32)) → ((((X.2 (y4).toNatClampNeg) &&& (31 : Int32)) = (18 : Int32)) → bi_in (y4 + (1 : Int32)) X.1 = true ∧ (bi_in (y4 + (2 : Int32)) X.1 = true ∧ (cI X d 286 [.ref 0, .int (X.2 ((y4 + (1 : Int32))).toNatClampNeg), .int (X.2 ((y4 + (2 : Int32))).toNatClampNeg), .ref 112] s (fun (r66 : Int32) (s66 : bi_St) => bi_in (y4 + (1 : Int32)) X.1 = true ∧ (bi_in (y4 + (2 : Int32)) X.1 = true ∧ (cI X d 252 [.ref 77, .int (X.2 ((y4 + (1 : Int32))).toNatClampNeg), .int (X.2 ((y4 + (2 : Int32))).toNatClampNeg)] s66 (fun (r67 : Int32) (s67 : bi_St) => cI X d 162 [.ref 77] s67 (fun (r68 : Int32) (s68 : bi_St) => ((r68 = r66) → ((¬ r66 = 0) → at_L_law_23 X (d + 1) K E s68 ((y4 + (6 : Int32)))) ∧ (¬ (¬ r66 = 0) → bi_in (0 : Int32) 1 = true ∧ ((((lg_cmp (st_gl s68 112 ((0 : Int32)).toNatClampNeg) (r67).toInt64) = 0) → at_L_law_23 X (d + 1) K E s68 ((y4 + (6 : Int32)))) ∧ (¬ ((lg_cmp (st_gl s68 112 ((0 : Int32)).toNatClampNeg) (r67).toInt64) = 0) → K (0 : Int32) s68)))) ∧ (¬ (r68 = r66) → K (0 : Int32) s68)) (fun _ _ => False)) (fun _ _ => False)))) (fun _ _ => False)))) ∧ (¬ (((X.2 (y4).toNatClampNeg) &&& (31 : Int32)) = (18 : Int32)) → ((((X.2 (y4).toNatClampNeg) &&& (31 : Int32)) = (19 : Int32)) → bi_in (y4 + (1 : Int32)) X.1 = true ∧ (bi_in (y4 + (2 : Int32)) X.1 = true ∧ (cI X d 287 [.ref 0, .int (X.2 ((y4 + (1 : Int32))).toNatClampNeg), .int (X.2 ((y4 + (2 : Int32))).toNatClampNeg), .ref 112] s (fun (r69 : Int32) (s69 : bi_St) => bi_in (y4 + (1 : Int32)) X.1 = true ∧ (bi_in (y4 + (2 : Int32)) X.1 = true ∧ (cI X d 255 [.ref 77, .int (X.2 ((y4 + (1 : Int32))).toNatClampNeg), .int (X.2 ((y4 + (2 : Int32))).toNatClampNeg)] s69 (fun (r70 : Int32) (s70 : bi_St) => cI X d 162 [.ref 77] s70 (fun (r71 : Int32) (s71 : bi_St) => ((r71 = r69) → ((¬ r69 = 0) → at_L_law_23 X (d + 1) K E s71 ((y4 + (6 : Int32)))) ∧ (¬ (¬ r69 = 0) → bi_in (0 : Int32) 1 = true ∧ ((((lg_cmp (st_gl s71 112 ((0 : Int32)).toNatClampNeg) (r70).toInt64) = 0) → at_L_law_23 X (d + 1) K E s71 ((y4 + (6 : Int32)))) ∧ (¬ ((lg_cmp (st_gl s71 112 ((0 : Int32)).toNatClampNeg) (r70).toInt64) = 0) → K (0 : Int32) s71)))) ∧ (¬ (r71 = r69) → K (0 : Int32) s71)) (fun _ _ => False)) (fun _ _ => False)))) (fun _ _ => False)))) ∧ (¬ (((X.2 (y4).toNatClampNeg) &&& (31 : Int32)) = (19 : Int32)) → ((((X.2 (y4).toNatClampNeg) &&& (31 : Int32)) = (20 : Int32)) → bi_in (y4 + (1 : Int32)) X.1 = true ∧ (bi_in (y4 + (2 : Int32)) X.1 = true ∧ (bi_in (y4 + (3 : Int32)) X.1 = true ∧ (cI X d 288 [.ref 0, .int (X.2 ((y4 + (1 : Int32))).toNatClampNeg), .int (X.2 ((y4 + (2 : Int32))).toNatClampNeg), .int (X.2 ((y4 + (3 : Int32))).toNatClampNeg), .ref 112] s (fun (r72 : Int32) (s72 : bi_St) => bi_in (y4 + (1 : Int32)) X.1 = true ∧ (bi_in (y4 + (2 : Int32)) X.1 = true ∧ (bi_in (y4 + (3 : Int32)) X.1 = true ∧ (cI X d 251 [.ref 77, .int (X.2 ((y4 + (1 : Int32))).toNatClampNeg), .int (X.2 ((y4 + (2 : Int32))).toNatClampNeg), .int (X.2 ((y4 + (3 : Int32))).toNatClampNeg)] s72 (fun (r73 : Int32) (s73 : bi_St) => cI X d 162 [.ref 77] s73 (fun (r74 : Int32) (s74 : bi_St) => ((r74 = r72) → ((¬ r72 = 0) → at_L_law_23 X (d + 1) K E s74 ((y4 + (6 : Int32)))) ∧ (¬ (¬ r72 = 0) → bi_in (0 : Int32) 1 = true ∧ ((((lg_cmp (st_gl s74 112 ((0 : Int32)).toNatClampNeg) (r73).toInt64) = 0) → at_L_law_23 X (d + 1) K E s74 ((y4 + (6 : Int32)))) ∧ (¬ ((lg_cmp (st_gl s74 112 ((0 : Int32)).toNatClampNeg) (r73).toInt64) = 0) → K (0 : Int32) s74)))) ∧ (¬ (r74 = r72) → K (0 : Int32) s74)) (fun _ _ => False)) (fun _ _ => False))))) (fun _ _ => False))))) ∧ (¬ (((X.2 (y4).toNatClampNeg) &&& (31 : Int32)) = (20 : Int32)) → ((((X.2 (y4).toNatClampNeg) &&& (31 : Int32)) = (21 : Int32)) → bi_in (y4 + (1 : Int32)) X.1 = true ∧ (bi_in (y4 + (2 : Int32)) X.1 = true ∧ (bi_in (y4 + (3 : Int32)) X.1 = true ∧ ((((X.2 ((y4 + (3 : Int32))).toNatClampNeg) = 0) → cI X d 289 [.ref 0, .int (X.2 ((y4 + (1 : Int32))).toNatClampNeg), .int (X.2 ((y4 + (2 : Int32))).toNatClampNeg), .int (0 : Int32), .ref 112] s (fun (r75 : Int32) (s75 : bi_St) => bi_in (y4 + (1 : Int32)) X.1 = true ∧ (bi_in (y4 + (2 : Int32)) X.1 = true ∧ (bi_in (y4 + (3 : Int32)) X.1 = true ∧ ((((X.2 ((y4 + (3 : Int32))).toNatClampNeg) = 0) → cI X d 256 [.ref 77, .int (X.2 ((y4 + (1 : Int32))).toNatClampNeg), .int (X.2 ((y4 + (2 : Int32))).toNatClampNeg), .int (0 : Int32)] s75 (fun (r76 : Int32) (s76 : bi_St) => cI X d 162 [.ref 77] s76 (fun (r77 : Int32) (s77 : bi_St) => ((r77 = r75) → ((¬ r75 = 0) → at_L_law_23 X (d + 1) K E s77 ((y4 + (6 : Int32)))) ∧ (¬ (¬ r75 = 0) → bi_in (0 : Int32) 1 = true ∧ ((((lg_cmp (st_gl s77 112 ((0 : Int32)).toNatClampNeg) (r76).toInt64) = 0) → at_L_law_23 X (d + 1) K E s77 ((y4 + (6 : Int32)))) ∧ (¬ ((lg_cmp (st_gl s77 112 ((0 : Int32)).toNatClampNeg) (r76).toInt64) = 0) → K (0 : Int32) s77)))) ∧ (¬ (r77 = r75) → K (0 : Int32) s77)) (fun _ _ => False)) (fun _ _ => False)) ∧ (¬ ((X.2 ((y4 + (3 : Int32))).toNatClampNeg) = 0) → cI X d 256 [.ref 77, .int (X.2 ((y4 + (1 : Int32))).toNatClampNeg), .int (X.2 ((y4 + (2 : Int32))).toNatClampNeg), .int (1 : Int32)] s75 (fun (r78 : Int32) (s78 : bi_St) => cI X d 162 [.ref 77] s78 (fun (r79 : Int32) (s79 : bi_St) => ((r79 = r75) → ((¬ r75 = 0) → at_L_law_23 X (d + 1) K E s79 ((y4 + (6 : Int32)))) ∧ (¬ (¬ r75 = 0) → bi_in (0 : Int32) 1 = true ∧ ((((lg_cmp (st_gl s79 112 ((0 : Int32)).toNatClampNeg) (r78).toInt64) = 0) → at_L_law_23 X (d + 1) K E s79 ((y4 + (6 : Int32)))) ∧ (¬ ((lg_cmp (st_gl s79 112 ((0 : Int32)).toNatClampNeg) (r78).toInt64) = 0) → K (0 : Int32) s79)))) ∧ (¬ (r79 = r75) → K (0 : Int32) s79)) (fun _ _ => False)) (fun _ _ => False)))))) (fun _ _ => False)) ∧ (¬ ((X.2 ((y4 + (3 : Int32))).toNatClampNeg) = 0) → cI X d 289 [.ref 0, .int (X.2 ((y4 + (1 : Int32))).toNatClampNeg), .int (X.2 ((y4 + (2 : Int32))).toNatClampNeg), .int (1 : Int32), .ref 112] s (fun (r80 : Int32) (s80 : bi_St) => bi_in (y4 + (1 : Int32)) X.1 = true ∧ (bi_in (y4 + (2 : Int32)) X.1 = true ∧ (bi_in (y4 + (3 : Int32)) X.1 = true ∧ ((((X.2 ((y4 + (3 : Int32))).toNatClampNeg) = 0) → cI X d 256 [.ref 77, .int (X.2 ((y4 + (1 : Int32))).toNatClampNeg), .int (X.2 ((y4 + (2 : Int32))).toNatClampNeg), .int (0 : Int32)] s80 (fun (r81 : Int32) (s81 : bi_St) => cI X d 162 [.ref 77] s81 (fun (r82 : Int32) (s82 : bi_St) => ((r82 = r80) → ((¬ r80 = 0) → at_L_law_23 X (d + 1) K E s82 ((y4 + (6 : Int32)))) ∧ (¬ (¬ r80 = 0) → bi_in (0 : Int32) 1 = true ∧ ((((lg_cmp (st_gl s82 112 ((0 : Int32)).toNatClampNeg) (r81).toInt64) = 0) → at_L_law_23 X (d + 1) K E s82 ((y4 + (6 : Int32)))) ∧ (¬ ((lg_cmp (st_gl s82 112 ((0 : Int32)).toNatClampNeg) (r81).toInt64) = 0) → K (0 : Int32) s82)))) ∧ (¬ (r82 = r80) → K (0 : Int32) s82)) (fun _ _ => False)) (fun _ _ => False)) ∧ (¬ ((X.2 ((y4 + (3 : Int32))).toNatClampNeg) = 0) → cI X d 256 [.ref 77, .int (X.2 ((y4 + (1 : Int32))).toNatClampNeg), .int (X.2 ((y4 + (2 : Int32))).toNatClampNeg), .int (1 : Int32)] s80 (fun (r83 : Int32) (s83 : bi_St) => cI X d 162 [.ref 77] s83 (fun (r84 : Int32) (s84 : bi_St) => ((r84 = r80) → ((¬ r80 = 0) → at_L_law_23 X (d + 1) K E s84 ((y4 + (6 : Int32)))) ∧ (¬ (¬ r80 = 0) → bi_in (0 : Int32) 1 = true ∧ ((((lg_cmp (st_gl s84 112 ((0 : Int32)).toNatClampNeg) (r83).toInt64) = 0) → at_L_law_23 X (d + 1) K E s84 ((y4 + (6 : Int32)))) ∧ (¬ ((lg_cmp (st_gl s84 112 ((0 : Int32)).toNatClampNeg) (r83).toInt64) = 0) → K (0 : Int32) s84)))) ∧ (¬ (r84 = r80) → K (0 : Int32) s84)) (fun _ _ => False)) (fun _ _ => False)))))) (fun _ _ => False)))))) ∧ (¬ (((X.2 (y4).toNatClampNeg) &&& (31 : Int32)) = (21 : Int32)) → ((((X.2 (y4).toNatClampNeg) &&& (31 : Int32)) = (22 : Int32)) → cV X d 145 [.ref 0] s (fun (s85 : bi_St) => cV X d 257 [.ref 77] s85 (fun (s86 : bi_St) => at_L_law_23 X (d + 1) K E s86 ((y4 + (6 : Int32)))) (fun _ _ => False)) (fun _ _ => False)) ∧ (¬ (((X.2 (y4).toNatClampNeg) &&& (31 : Int32)) = (22 : Int32)) → ((((X.2 (y4).toNatClampNeg) &&& (31 : Int32)) = (23 : Int32)) → bi_in (y4 + (1 : Int32)) X.1 = true ∧ (cI X d 290 [.ref 0, .int (X.2 ((y4 + (1 : Int32))).toNatClampNeg), .ref 112] s (fun (r87 : Int32) (s87 : bi_St) => bi_in (y4 + (1 : Int32)) X.1 = true ∧ (cI X d 260 [.ref 77, .int (X.2 ((y4 + (1 : Int32))).toNatClampNeg)] s87 (fun (r88 : Int32) (s88 : bi_St) => cI X d 162 [.ref 77] s88 (fun (r89 : Int32) (s89 : bi_St) => ((r89 = r87) → ((¬ r87 = 0) → at_L_law_23 X (d + 1) K E s89 ((y4 + (6 : Int32)))) ∧ (¬ (¬ r87 = 0) → bi_in (0 : Int32) 1 = true ∧ ((((lg_cmp (st_gl s89 112 ((0 : Int32)).toNatClampNeg) (r88).toInt64) = 0) → at_L_law_23 X (d + 1) K E s89 ((y4 + (6 : Int32)))) ∧ (¬ ((lg_cmp (st_gl s89 112 ((0 : Int32)).toNatClampNeg) (r88).toInt64) = 0) → K (0 : Int32) s89)))) ∧ (¬ (r89 = r87) → K (0 : Int32) s89)) (fun _ _ => False)) (fun _ _ => False))) (fun _ _ => False))) ∧ (¬ (((X.2 (y4).toNatClampNeg) &&& (31 : Int32)) = (23 : Int32)) → ((((X.2 (y4).toNatClampNeg) &&& (31 : Int32)) = (24 : Int32)) → bi_in (y4 + (1 : Int32)) X.1 = true ∧ (cI X d 291 [.ref 0, .int (X.2 ((y4 + (1 : Int32))).toNatClampNeg), .ref 112] s (fun (r90 : Int32) (s90 : bi_St) => bi_in (y4 + (1 : Int32)) X.1 = true ∧ (cI X d 261 [.ref 77, .int (X.2 ((y4 + (1 : Int32))).toNatClampNeg)] s90 (fun (r91 : Int32) (s91 : bi_St) => cI X d 162 [.ref 77] s91 (fun (r92 : Int32) (s92 : bi_St) => ((r92 = r90) → ((¬ r90 = 0) → at_L_law_23 X (d + 1) K E s92 ((y4 + (6 : Int32)))) ∧ (¬ (¬ r90 = 0) → bi_in (0 : Int32) 1 = true ∧ ((((lg_cmp (st_gl s92 112 ((0 : Int32)).toNatClampNeg) (r91).toInt64) = 0) → at_L_law_23 X (d + 1) K E s92 ((y4 + (6 : Int32)))) ∧ (¬ ((lg_cmp (st_gl s92 112 ((0 : Int32)).toNatClampNeg) (r91).toInt64) = 0) → K (0 : Int32) s92)))) ∧ (¬ (r92 = r90) → K (0 : Int32) s92)) (fun _ _ => False)) (fun _ _ => False))) (fun _ _ => False))) ∧ (¬ (((X.2 (y4).toNatClampNeg) &&& (31 : Int32)) = (24 : Int32)) → ((((X.2 (y4).toNatClampNeg) &&& (31 : Int32)) = (25 : Int32)) → bi_in (y4 + (1 : Int32)) X.1 = true ∧ (bi_in (y4 + (2 : Int32)) X.1 = true ∧ (bi_in (y4 + (3 : Int32)) X.1 = true ∧ (cI X d 292 [.ref 0, .int (X.2 ((y4 + (1 : Int32))).toNatClampNeg), .int (X.2 ((y4 + (2 : Int32))).toNatClampNeg), .int (X.2 ((y4 + (3 : Int32))).toNatClampNeg), .ref 112] s (fun (r93 : Int32) (s93 : bi_St) => bi_in (y4 + (1 : Int32)) X.1 = true ∧ (bi_in (y4 + (2 : Int32)) X.1 = true ∧ (bi_in (y4 + (3 : Int32)) X.1 = true ∧ (cI X d 262 [.ref 77, .int (X.2 ((y4 + (1 : Int32))).toNatClampNeg), .int (X.2 ((y4 + (2 : Int32))).toNatClampNeg), .int (X.2 ((y4 + (3 : Int32))).toNatClampNeg)] s93 (fun (r94 : Int32) (s94 : bi_St) => cI X d 162 [.ref 77] s94 (fun (r95 : Int32) (s95 : bi_St) => ((r95 = r93) → ((¬ r93 = 0) → at_L_law_23 X (d + 1) K E s95 ((y4 + (6 : Int32)))) ∧ (¬ (¬ r93 = 0) → bi_in (0 : Int32) 1 = true ∧ ((((lg_cmp (st_gl s95 112 ((0 : Int32)).toNatClampNeg) (r94).toInt64) = 0) → at_L_law_23 X (d + 1) K E s95 ((y4 + (6 : Int32)))) ∧ (¬ ((lg_cmp (st_gl s95 112 ((0 : Int32)).toNatClampNeg) (r94).toInt64) = 0) → K (0 : Int32) s95)))) ∧ (¬ (r95 = r93) → K (0 : Int32) s95)) (fun _ _ => False)) (fun _ _ => False))))) (fun _ _ => False))))) ∧ (¬ (((X.2 (y4).toNatClampNeg) &&& (31 : Int32)) = (25 : Int32)) → ((((X.2 (y4).toNatClampNeg) &&& (31 : Int32)) = (26 : Int32)) → bi_in (y4 + (1 : Int32)) X.1 = true ∧ (bi_in (y4 + (2 : Int32)) X.1 = true ∧ (bi_in (y4 + (3 : Int32)) X.1 = true ∧ (cI X d 293 [.ref 0, .int (X.2 ((y4 + (1 : Int32))).toNatClampNeg), .int (X.2 ((y4 + (2 : Int32))).toNatClampNeg), .int (X.2 ((y4 + (3 : Int32))).toNatClampNeg), .ref 112] s (fun (r96 : Int32) (s96 : bi_St) => bi_in (y4 + (1 : Int32)) X.1 = true ∧ (bi_in (y4 + (2 : Int32)) X.1 = true ∧ (bi_in (y4 + (3 : Int32)) X.1 = true ∧ (cI X d 265 [.ref 77, .int (X.2 ((y4 + (1 : Int32))).toNatClampNeg), .int (X.2 ((y4 + (2 : Int32))).toNatClampNeg), .int (X.2 ((y4 + (3 : Int32))).toNatClampNeg)] s96 (fun (r97 : Int32) (s97 : bi_St) => cI X d 162 [.ref 77] s97 (fun (r98 : Int32) (s98 : bi_St) => ((r98 = r96) → ((¬ r96 = 0) → at_L_law_23 X (d + 1) K E s98 ((y4 + (6 : Int32)))) ∧ (¬ (¬ r96 = 0) → bi_in (0 : Int32) 1 = true ∧ ((((lg_cmp (st_gl s98 112 ((0 : Int32)).toNatClampNeg) (r97).toInt64) = 0) → at_L_law_23 X (d + 1) K E s98 ((y4 + (6 : Int32)))) ∧ (¬ ((lg_cmp (st_gl s98 112 ((0 : Int32)).toNatClampNeg) (r97).toInt64) = 0) → K (0 : Int32) s98)))) ∧ (¬ (r98 = r96) → K (0 : Int32) s98)) (fun _ _ => False)) (fun _ _ => False))))) (fun _ _ => False))))) ∧ (¬ (((X.2 (y4).toNatClampNeg) &&& (31 : Int32)) = (26 : Int32)) → ((((X.2 (y4).toNatClampNeg) &&& (31 : Int32)) = (27 : Int32)) → cV X d 150 [.ref 0] s (fun (s99 : bi_St) => cV X d 266 [.ref 77] s99 (fun (s100 : bi_St) => at_L_law_23 X (d + 1) K E s100 ((y4 + (6 : Int32)))) (fun _ _ => False)) (fun _ _ => False)) ∧ (¬ (((X.2 (y4).toNatClampNeg) &&& (31 : Int32)) = (27 : Int32)) → ((((X.2 (y4).toNatClampNeg) &&& (31 : Int32)) = (28 : Int32)) → cI X d 151 [.ref 0] s (fun (r101 : Int32) (s101 : bi_St) => cI X d 267 [.ref 77] s101 (fun (r102 : Int32) (s102 : bi_St) => ((r101 = r102) → at_L_law_23 X (d + 1) K E s102 ((y4 + (6 : Int32)))) ∧ (¬ (r101 = r102) → K (0 : Int32) s102)) (fun _ _ => False)) (fun _ _ => False)) ∧ (¬ (((X.2 (y4).toNatClampNeg) &&& (31 : Int32)) = (28 : Int32)) → at_L_law_23 X (d + 1) K E s ((y4 + (6 : Int32))))))))))))))))))))))))))))))))))) : at_L_law_23 X (d + 1) K E s y4 := by
  show bi_T _ _ _ _ _
  refine bi_Tr 6 (s' := ((if ((Int32.ofNat X.1) - (6 : Int32)) < y4 then 1998 else 33), [(0, .ref 4999), (1, .ref 0), (2, .ref 77), (3, .ref 112), (4, .int y4)], [], st_mm s)) rfl (bi_Tif (fun hc => ?_) (fun hc => ?_))
  · have h := h.1 hc
    refine bi_Tr 1 (s' := (1999, [(0, .ref 4999), (1, .ref 0), (2, .ref 77), (3, .ref 112), (4, .int y4)], [.int (1 : Int32)], st_mm s)) rfl ?_
    exact bi_Tv rfl rfl (Or.inl ⟨_, _, rfl, h⟩)
  · have h := h.2 hc
    refine bi_Tr 2 (s' := (36, [(0, .ref 4999), (1, .ref 0), (2, .ref 77), (3, .ref 112), (4, .int y4)], [.int y4, .ref 4999], st_mm s)) rfl ?_
    obtain ⟨hi, h⟩ := h
    refine bi_Tsal rfl hi ?_
    refine bi_Tr 2 (s' := (40, [(0, .ref 4999), (1, .ref 0), (2, .ref 77), (3, .ref 112), (4, .int y4)], [.int ((X.2 (y4).toNatClampNeg) &&& (31 : Int32))], st_mm s)) rfl ?_
    refine bi_Tsw rfl (fun t ht => ?_) (bi_swn (b := 1992) rfl (by decide) (by decide))
    by_cases hc : ((X.2 (y4).toNatClampNeg) &&& (31 : Int32)) = (0 : Int32)
    · rw [hc] at ht; cases ht
      have h := h.1 hc
      refine bi_Tr 5 (s' := (178, [(0, .ref 4999), (1, .ref 0), (2, .ref 77), (3, .ref 112), (4, .int y4)], [.int (y4 + (1 : Int32)), .ref 4999, .ref 0], st_mm s)) rfl ?_
      obtain ⟨hi, h⟩ := h
      refine bi_Tsal rfl hi ?_
      refine bi_Tr 4 (s' := (184, [(0, .ref 4999), (1, .ref 0), (2, .ref 77), (3, .ref 112), (4, .int y4)], [.int (y4 + (2 : Int32)), .ref 4999, .int (X.2 ((y4 + (1 : Int32))).toNatClampNeg), .ref 0], st_mm s)) rfl ?_
      obtain ⟨hi, h⟩ := h
      refine bi_Tsal rfl hi ?_
      refine bi_Tr 4 (s' := (190, [(0, .ref 4999), (1, .ref 0), (2, .ref 77), (3, .ref 112), (4, .int y4)], [.int (y4 + (3 : Int32)), .ref 4999, .int (X.2 ((y4 + (2 : Int32))).toNatClampNeg), .int (X.2 ((y4 + (1 : Int32))).toNatClampNeg), .ref 0], st_mm s)) rfl ?_
      obtain ⟨hi, h⟩ := h
      refine bi_Tsal rfl hi ?_
      refine bi_Tr 4 (s' := (196, [(0, .ref 4999), (1, .ref 0), (2, .ref 77), (3, .ref 112), (4, .int y4)], [.int (y4 + (4 : Int32)), .ref 4999, .int (X.2 ((y4 + (3 : Int32))).toNatClampNeg), .int (X.2 ((y4 + (2 : Int32))).toNatClampNeg), .int (X.2 ((y4 + (1 : Int32))).toNatClampNeg), .ref 0], st_mm s)) rfl ?_
      obtain ⟨hi, h⟩ := h
      refine bi_Tsal rfl hi ?_
      refine bi_Tr 4 (s' := (202, [(0, .ref 4999), (1, .ref 0), (2, .ref 77), (3, .ref 112), (4, .int y4)], [.int (y4 + (5 : Int32)), .ref 4999, .int (X.2 ((y4 + (4 : Int32))).toNatClampNeg), .int (X.2 ((y4 + (3 : Int32))).toNatClampNeg), .int (X.2 ((y4 + (2 : Int32))).toNatClampNeg), .int (X.2 ((y4 + (1 : Int32))).toNatClampNeg), .ref 0], st_mm s)) rfl ?_
      obtain ⟨hi, h⟩ := h
      refine bi_Tsal rfl hi ?_
      refine bi_TcI (as := [.ref 0, .int (X.2 ((y4 + (1 : Int32))).toNatClampNeg), .int (X.2 ((y4 + (2 : Int32))).toNatClampNeg), .int (X.2 ((y4 + (3 : Int32))).toNatClampNeg), .int (X.2 ((y4 + (4 : Int32))).toNatClampNeg), .int (X.2 ((y4 + (5 : Int32))).toNatClampNeg)]) rfl rfl ?_
      refine cI.mono h (fun r1 s1 h => ?_) (fun _ _ h => h.elim)
      refine bi_Tr 5 (s' := (212, [(0, .ref 4999), (1, .ref 0), (2, .ref 77), (3, .ref 112), (4, .int y4)], [.int (y4 + (1 : Int32)), .ref 4999, .ref 77, .int r1], st_mm s1)) rfl ?_
      obtain ⟨hi, h⟩ := h
      refine bi_Tsal rfl hi ?_
      refine bi_Tr 4 (s' := (218, [(0, .ref 4999), (1, .ref 0), (2, .ref 77), (3, .ref 112), (4, .int y4)], [.int (y4 + (2 : Int32)), .ref 4999, .int (X.2 ((y4 + (1 : Int32))).toNatClampNeg), .ref 77, .int r1], st_mm s1)) rfl ?_
      obtain ⟨hi, h⟩ := h
      refine bi_Tsal rfl hi ?_
      refine bi_Tr 4 (s' := (224, [(0, .ref 4999), (1, .ref 0), (2, .ref 77), (3, .ref 112), (4, .int y4)], [.int (y4 + (3 : Int32)), .ref 4999, .int (X.2 ((y4 + (2 : Int32))).toNatClampNeg), .int (X.2 ((y4 + (1 : Int32))).toNatClampNeg), .ref 77, .int r1], st_mm s1)) rfl ?_
      obtain ⟨hi, h⟩ := h
      refine bi_Tsal rfl hi ?_
      refine bi_Tr 4 (s' := (230, [(0, .ref 4999), (1, .ref 0), (2, .ref 77), (3, .ref 112), (4, .int y4)], [.int (y4 + (4 : Int32)), .ref 4999, .int (X.2 ((y4 + (3 : Int32))).toNatClampNeg), .int (X.2 ((y4 + (2 : Int32))).toNatClampNeg), .int (X.2 ((y4 + (1 : Int32))).toNatClampNeg), .ref 77, .int r1], st_mm s1)) rfl ?_
      obtain ⟨hi, h⟩ := h
      refine bi_Tsal rfl hi ?_
      refine bi_Tr 4 (s' := (236, [(0, .ref 4999), (1, .ref 0), (2, .ref 77), (3, .ref 112), (4, .int y4)], [.int (y4 + (5 : Int32)), .ref 4999, .int (X.2 ((y4 + (4 : Int32))).toNatClampNeg), .int (X.2 ((y4 + (3 : Int32))).toNatClampNeg), .int (X.2 ((y4 + (2 : Int32))).toNatClampNeg), .int (X.2 ((y4 + (1 : Int32))).toNatClampNeg), .ref 77, .int r1], st_mm s1)) rfl ?_
      obtain ⟨hi, h⟩ := h
      refine bi_Tsal rfl hi ?_
      refine bi_TcI (as := [.ref 77, .int (X.2 ((y4 + (1 : Int32))).toNatClampNeg), .int (X.2 ((y4 + (2 : Int32))).toNatClampNeg), .int (X.2 ((y4 + (3 : Int32))).toNatClampNeg), .int (X.2 ((y4 + (4 : Int32))).toNatClampNeg), .int (X.2 ((y4 + (5 : Int32))).toNatClampNeg)]) rfl rfl ?_
      refine cI.mono h (fun r2 s2 h => ?_) (fun _ _ h => h.elim)
      refine bi_Tr 1 (s' := ((if r1 = r2 then 1992 else 243), [(0, .ref 4999), (1, .ref 0), (2, .ref 77), (3, .ref 112), (4, .int y4)], [], st_mm s2)) rfl (bi_Tif (fun hc => ?_) (fun hc => ?_))
      · have h := h.1 hc
        refine bi_Tr 2 (s' := (23, [(4, .int (y4 + (6 : Int32))), (0, .ref 4999), (1, .ref 0), (2, .ref 77), (3, .ref 112)], [], st_mm s2)) rfl ?_
        exact bi_Tww h rfl rfl ⟨rfl, rfl, rfl, rfl, rfl, trivial⟩
      · have h := h.2 hc
        refine bi_Tr 1 (s' := (244, [(0, .ref 4999), (1, .ref 0), (2, .ref 77), (3, .ref 112), (4, .int y4)], [.int (0 : Int32)], st_mm s2)) rfl ?_
        exact bi_Tv rfl rfl (Or.inl ⟨_, _, rfl, h⟩)
    have h := h.2 hc
    have hn0 := lv_neT hc (a := 0) rfl
    by_cases hc : ((X.2 (y4).toNatClampNeg) &&& (31 : Int32)) = (1 : Int32)
    · rw [hc] at ht; cases ht
      have h := h.1 hc
      refine bi_Tr 5 (s' := (251, [(0, .ref 4999), (1, .ref 0), (2, .ref 77), (3, .ref 112), (4, .int y4)], [.int (y4 + (1 : Int32)), .ref 4999, .ref 0], st_mm s)) rfl ?_
      obtain ⟨hi, h⟩ := h
      refine bi_Tsal rfl hi ?_
      refine bi_Tr 1 (s' := (253, [(0, .ref 4999), (1, .ref 0), (2, .ref 77), (3, .ref 112), (4, .int y4)], [.ref 112, .int (X.2 ((y4 + (1 : Int32))).toNatClampNeg), .ref 0], st_mm s)) rfl ?_
      refine bi_TcI (as := [.ref 0, .int (X.2 ((y4 + (1 : Int32))).toNatClampNeg), .ref 112]) rfl rfl ?_
      refine cI.mono h (fun r3 s3 h => ?_) (fun _ _ h => h.elim)
      refine bi_Tr 6 (s' := (264, [(5, .int r3), (0, .ref 4999), (1, .ref 0), (2, .ref 77), (3, .ref 112), (4, .int y4)], [.int (y4 + (1 : Int32)), .ref 4999, .ref 77], st_mm s3)) rfl ?_
      obtain ⟨hi, h⟩ := h
      refine bi_Tsal rfl hi ?_
      refine bi_TcI (as := [.ref 77, .int (X.2 ((y4 + (1 : Int32))).toNatClampNeg)]) rfl rfl ?_
      refine cI.mono h (fun r4 s4 h => ?_) (fun _ _ h => h.elim)
      refine bi_Tr 2 (s' := (271, [(6, .int r4), (5, .int r3), (0, .ref 4999), (1, .ref 0), (2, .ref 77), (3, .ref 112), (4, .int y4)], [.ref 77], st_mm s4)) rfl ?_
      refine bi_TcI (as := [.ref 77]) rfl rfl ?_
      refine cI.mono h (fun r5 s5 h => ?_) (fun _ _ h => h.elim)
      refine bi_Tr 2 (s' := ((if r5 = r3 then 281 else 279), [(6, .int r4), (5, .int r3), (0, .ref 4999), (1, .ref 0), (2, .ref 77), (3, .ref 112), (4, .int y4)], [], st_mm s5)) rfl (bi_Tif (fun hc => ?_) (fun hc => ?_))
      · have h := h.1 hc
        refine bi_Tr 2 (s' := ((if ¬ r3 = 0 then 298 else 286), [(6, .int r4), (5, .int r3), (0, .ref 4999), (1, .ref 0), (2, .ref 77), (3, .ref 112), (4, .int y4)], [], st_mm s5)) rfl (bi_Tif (fun hc => ?_) (fun hc => ?_))
        · have h := h.1 hc
          refine bi_Tr 3 (s' := (23, [(4, .int (y4 + (6 : Int32))), (6, .int r4), (5, .int r3), (0, .ref 4999), (1, .ref 0), (2, .ref 77), (3, .ref 112)], [], st_mm s5)) rfl ?_
          exact bi_Tww h rfl rfl ⟨rfl, rfl, rfl, rfl, rfl, trivial⟩
        · have h := h.2 hc
          refine bi_Tr 2 (s' := (288, [(6, .int r4), (5, .int r3), (0, .ref 4999), (1, .ref 0), (2, .ref 77), (3, .ref 112), (4, .int y4)], [.int (0 : Int32), .ref 112], st_mm s5)) rfl ?_
          obtain ⟨hi, h⟩ := h
          refine bi_Tlal rfl rfl hi ?_
          refine bi_Tr 4 (s' := ((if (lg_cmp (st_gl s5 112 ((0 : Int32)).toNatClampNeg) (r4).toInt64) = 0 then 298 else 296), [(6, .int r4), (5, .int r3), (0, .ref 4999), (1, .ref 0), (2, .ref 77), (3, .ref 112), (4, .int y4)], [], st_mm s5)) rfl (bi_Tif (fun hc => ?_) (fun hc => ?_))
          · have h := h.1 hc
            refine bi_Tr 3 (s' := (23, [(4, .int (y4 + (6 : Int32))), (6, .int r4), (5, .int r3), (0, .ref 4999), (1, .ref 0), (2, .ref 77), (3, .ref 112)], [], st_mm s5)) rfl ?_
            exact bi_Tww h rfl rfl ⟨rfl, rfl, rfl, rfl, rfl, trivial⟩
          · have h := h.2 hc
            refine bi_Tr 1 (s' := (297, [(6, .int r4), (5, .int r3), (0, .ref 4999), (1, .ref 0), (2, .ref 77), (3, .ref 112), (4, .int y4)], [.int (0 : Int32)], st_mm s5)) rfl ?_
            exact bi_Tv rfl rfl (Or.inl ⟨_, _, rfl, h⟩)
      · have h := h.2 hc
        refine bi_Tr 1 (s' := (280, [(6, .int r4), (5, .int r3), (0, .ref 4999), (1, .ref 0), (2, .ref 77), (3, .ref 112), (4, .int y4)], [.int (0 : Int32)], st_mm s5)) rfl ?_
        exact bi_Tv rfl rfl (Or.inl ⟨_, _, rfl, h⟩)
    have h := h.2 hc
    have hn1 := lv_neT hc (a := 1) rfl
    by_cases hc : ((X.2 (y4).toNatClampNeg) &&& (31 : Int32)) = (2 : Int32)
    · rw [hc] at ht; cases ht
      have h := h.1 hc
      refine bi_Tr 5 (s' := (307, [(0, .ref 4999), (1, .ref 0), (2, .ref 77), (3, .ref 112), (4, .int y4)], [.int (y4 + (1 : Int32)), .ref 4999, .ref 0], st_mm s)) rfl ?_
      obtain ⟨hi, h⟩ := h
      refine bi_Tsal rfl hi ?_
      refine bi_Tr 4 (s' := (313, [(0, .ref 4999), (1, .ref 0), (2, .ref 77), (3, .ref 112), (4, .int y4)], [.int (y4 + (2 : Int32)), .ref 4999, .int (X.2 ((y4 + (1 : Int32))).toNatClampNeg), .ref 0], st_mm s)) rfl ?_
      obtain ⟨hi, h⟩ := h
      refine bi_Tsal rfl hi ?_
      refine bi_Tr 4 (s' := (319, [(0, .ref 4999), (1, .ref 0), (2, .ref 77), (3, .ref 112), (4, .int y4)], [.int (y4 + (3 : Int32)), .ref 4999, .int (X.2 ((y4 + (2 : Int32))).toNatClampNeg), .int (X.2 ((y4 + (1 : Int32))).toNatClampNeg), .ref 0], st_mm s)) rfl ?_
      obtain ⟨hi, h⟩ := h
      refine bi_Tsal rfl hi ?_
      refine bi_Tr 1 (s' := (321, [(0, .ref 4999), (1, .ref 0), (2, .ref 77), (3, .ref 112), (4, .int y4)], [.ref 112, .int (X.2 ((y4 + (3 : Int32))).toNatClampNeg), .int (X.2 ((y4 + (2 : Int32))).toNatClampNeg), .int (X.2 ((y4 + (1 : Int32))).toNatClampNeg), .ref 0], st_mm s)) rfl ?_
      refine bi_TcI (as := [.ref 0, .int (X.2 ((y4 + (1 : Int32))).toNatClampNeg), .int (X.2 ((y4 + (2 : Int32))).toNatClampNeg), .int (X.2 ((y4 + (3 : Int32))).toNatClampNeg), .ref 112]) rfl rfl ?_
      refine cI.mono h (fun r6 s6 h => ?_) (fun _ _ h => h.elim)
      refine bi_Tr 6 (s' := (332, [(5, .int r6), (0, .ref 4999), (1, .ref 0), (2, .ref 77), (3, .ref 112), (4, .int y4)], [.int (y4 + (1 : Int32)), .ref 4999, .ref 77], st_mm s6)) rfl ?_
      obtain ⟨hi, h⟩ := h
      refine bi_Tsal rfl hi ?_
      refine bi_Tr 4 (s' := (338, [(5, .int r6), (0, .ref 4999), (1, .ref 0), (2, .ref 77), (3, .ref 112), (4, .int y4)], [.int (y4 + (2 : Int32)), .ref 4999, .int (X.2 ((y4 + (1 : Int32))).toNatClampNeg), .ref 77], st_mm s6)) rfl ?_
      obtain ⟨hi, h⟩ := h
      refine bi_Tsal rfl hi ?_
      refine bi_Tr 4 (s' := (344, [(5, .int r6), (0, .ref 4999), (1, .ref 0), (2, .ref 77), (3, .ref 112), (4, .int y4)], [.int (y4 + (3 : Int32)), .ref 4999, .int (X.2 ((y4 + (2 : Int32))).toNatClampNeg), .int (X.2 ((y4 + (1 : Int32))).toNatClampNeg), .ref 77], st_mm s6)) rfl ?_
      obtain ⟨hi, h⟩ := h
      refine bi_Tsal rfl hi ?_
      refine bi_TcI (as := [.ref 77, .int (X.2 ((y4 + (1 : Int32))).toNatClampNeg), .int (X.2 ((y4 + (2 : Int32))).toNatClampNeg), .int (X.2 ((y4 + (3 : Int32))).toNatClampNeg)]) rfl rfl ?_
      refine cI.mono h (fun r7 s7 h => ?_) (fun _ _ h => h.elim)
      refine bi_Tr 2 (s' := (351, [(6, .int r7), (5, .int r6), (0, .ref 4999), (1, .ref 0), (2, .ref 77), (3, .ref 112), (4, .int y4)], [.ref 77], st_mm s7)) rfl ?_
      refine bi_TcI (as := [.ref 77]) rfl rfl ?_
      refine cI.mono h (fun r8 s8 h => ?_) (fun _ _ h => h.elim)
      refine bi_Tr 2 (s' := ((if r8 = r6 then 361 else 359), [(6, .int r7), (5, .int r6), (0, .ref 4999), (1, .ref 0), (2, .ref 77), (3, .ref 112), (4, .int y4)], [], st_mm s8)) rfl (bi_Tif (fun hc => ?_) (fun hc => ?_))
      · have h := h.1 hc
        refine bi_Tr 2 (s' := ((if ¬ r6 = 0 then 378 else 366), [(6, .int r7), (5, .int r6), (0, .ref 4999), (1, .ref 0), (2, .ref 77), (3, .ref 112), (4, .int y4)], [], st_mm s8)) rfl (bi_Tif (fun hc => ?_) (fun hc => ?_))
        · have h := h.1 hc
          refine bi_Tr 3 (s' := (23, [(4, .int (y4 + (6 : Int32))), (6, .int r7), (5, .int r6), (0, .ref 4999), (1, .ref 0), (2, .ref 77), (3, .ref 112)], [], st_mm s8)) rfl ?_
          exact bi_Tww h rfl rfl ⟨rfl, rfl, rfl, rfl, rfl, trivial⟩
        · have h := h.2 hc
          refine bi_Tr 2 (s' := (368, [(6, .int r7), (5, .int r6), (0, .ref 4999), (1, .ref 0), (2, .ref 77), (3, .ref 112), (4, .int y4)], [.int (0 : Int32), .ref 112], st_mm s8)) rfl ?_
          obtain ⟨hi, h⟩ := h
          refine bi_Tlal rfl rfl hi ?_
          refine bi_Tr 4 (s' := ((if (lg_cmp (st_gl s8 112 ((0 : Int32)).toNatClampNeg) (r7).toInt64) = 0 then 378 else 376), [(6, .int r7), (5, .int r6), (0, .ref 4999), (1, .ref 0), (2, .ref 77), (3, .ref 112), (4, .int y4)], [], st_mm s8)) rfl (bi_Tif (fun hc => ?_) (fun hc => ?_))
          · have h := h.1 hc
            refine bi_Tr 3 (s' := (23, [(4, .int (y4 + (6 : Int32))), (6, .int r7), (5, .int r6), (0, .ref 4999), (1, .ref 0), (2, .ref 77), (3, .ref 112)], [], st_mm s8)) rfl ?_
            exact bi_Tww h rfl rfl ⟨rfl, rfl, rfl, rfl, rfl, trivial⟩
          · have h := h.2 hc
            refine bi_Tr 1 (s' := (377, [(6, .int r7), (5, .int r6), (0, .ref 4999), (1, .ref 0), (2, .ref 77), (3, .ref 112), (4, .int y4)], [.int (0 : Int32)], st_mm s8)) rfl ?_
            exact bi_Tv rfl rfl (Or.inl ⟨_, _, rfl, h⟩)
      · have h := h.2 hc
        refine bi_Tr 1 (s' := (360, [(6, .int r7), (5, .int r6), (0, .ref 4999), (1, .ref 0), (2, .ref 77), (3, .ref 112), (4, .int y4)], [.int (0 : Int32)], st_mm s8)) rfl ?_
        exact bi_Tv rfl rfl (Or.inl ⟨_, _, rfl, h⟩)
    have h := h.2 hc
    have hn2 := lv_neT hc (a := 2) rfl
    by_cases hc : ((X.2 (y4).toNatClampNeg) &&& (31 : Int32)) = (3 : Int32)
    · rw [hc] at ht; cases ht
      have h := h.1 hc
      refine bi_Tr 1 (s' := (382, [(0, .ref 4999), (1, .ref 0), (2, .ref 77), (3, .ref 112), (4, .int y4)], [.ref 0], st_mm s)) rfl ?_
      refine bi_TcI (as := [.ref 0]) rfl rfl ?_
      refine cI.mono h (fun r9 s9 h => ?_) (fun _ _ h => h.elim)
      refine bi_Tr 1 (s' := (386, [(0, .ref 4999), (1, .ref 0), (2, .ref 77), (3, .ref 112), (4, .int y4)], [.ref 77, .int r9], st_mm s9)) rfl ?_
      refine bi_TcI (as := [.ref 77]) rfl rfl ?_
      refine cI.mono h (fun r10 s10 h => ?_) (fun _ _ h => h.elim)
      refine bi_Tr 1 (s' := ((if r9 = r10 then 1992 else 392), [(0, .ref 4999), (1, .ref 0), (2, .ref 77), (3, .ref 112), (4, .int y4)], [], st_mm s10)) rfl (bi_Tif (fun hc => ?_) (fun hc => ?_))
      · have h := h.1 hc
        refine bi_Tr 2 (s' := (23, [(4, .int (y4 + (6 : Int32))), (0, .ref 4999), (1, .ref 0), (2, .ref 77), (3, .ref 112)], [], st_mm s10)) rfl ?_
        exact bi_Tww h rfl rfl ⟨rfl, rfl, rfl, rfl, rfl, trivial⟩
      · have h := h.2 hc
        refine bi_Tr 1 (s' := (393, [(0, .ref 4999), (1, .ref 0), (2, .ref 77), (3, .ref 112), (4, .int y4)], [.int (0 : Int32)], st_mm s10)) rfl ?_
        exact bi_Tv rfl rfl (Or.inl ⟨_, _, rfl, h⟩)
    have h := h.2 hc
    have hn3 := lv_neT hc (a := 3) rfl
    by_cases hc : ((X.2 (y4).toNatClampNeg) &&& (31 : Int32)) = (4 : Int32)
    · rw [hc] at ht; cases ht
      have h := h.1 hc
      refine bi_Tr 5 (s' := (400, [(0, .ref 4999), (1, .ref 0), (2, .ref 77), (3, .ref 112), (4, .int y4)], [.int (y4 + (1 : Int32)), .ref 4999, .ref 0], st_mm s)) rfl ?_
      obtain ⟨hi, h⟩ := h
      refine bi_Tsal rfl hi ?_
      refine bi_Tr 1 (s' := (402, [(0, .ref 4999), (1, .ref 0), (2, .ref 77), (3, .ref 112), (4, .int y4)], [.ref 112, .int (X.2 ((y4 + (1 : Int32))).toNatClampNeg), .ref 0], st_mm s)) rfl ?_
      refine bi_TcI (as := [.ref 0, .int (X.2 ((y4 + (1 : Int32))).toNatClampNeg), .ref 112]) rfl rfl ?_
      refine cI.mono h (fun r11 s11 h => ?_) (fun _ _ h => h.elim)
      refine bi_Tr 6 (s' := (413, [(5, .int r11), (0, .ref 4999), (1, .ref 0), (2, .ref 77), (3, .ref 112), (4, .int y4)], [.int (y4 + (1 : Int32)), .ref 4999, .ref 77], st_mm s11)) rfl ?_
      obtain ⟨hi, h⟩ := h
      refine bi_Tsal rfl hi ?_
      refine bi_TcI (as := [.ref 77, .int (X.2 ((y4 + (1 : Int32))).toNatClampNeg)]) rfl rfl ?_
      refine cI.mono h (fun r12 s12 h => ?_) (fun _ _ h => h.elim)
      refine bi_Tr 2 (s' := (420, [(6, .int r12), (5, .int r11), (0, .ref 4999), (1, .ref 0), (2, .ref 77), (3, .ref 112), (4, .int y4)], [.ref 77], st_mm s12)) rfl ?_
      refine bi_TcI (as := [.ref 77]) rfl rfl ?_
      refine cI.mono h (fun r13 s13 h => ?_) (fun _ _ h => h.elim)
      refine bi_Tr 2 (s' := ((if r13 = r11 then 430 else 428), [(6, .int r12), (5, .int r11), (0, .ref 4999), (1, .ref 0), (2, .ref 77), (3, .ref 112), (4, .int y4)], [], st_mm s13)) rfl (bi_Tif (fun hc => ?_) (fun hc => ?_))
      · have h := h.1 hc
        refine bi_Tr 2 (s' := ((if ¬ r11 = 0 then 447 else 435), [(6, .int r12), (5, .int r11), (0, .ref 4999), (1, .ref 0), (2, .ref 77), (3, .ref 112), (4, .int y4)], [], st_mm s13)) rfl (bi_Tif (fun hc => ?_) (fun hc => ?_))
        · have h := h.1 hc
          refine bi_Tr 3 (s' := (23, [(4, .int (y4 + (6 : Int32))), (6, .int r12), (5, .int r11), (0, .ref 4999), (1, .ref 0), (2, .ref 77), (3, .ref 112)], [], st_mm s13)) rfl ?_
          exact bi_Tww h rfl rfl ⟨rfl, rfl, rfl, rfl, rfl, trivial⟩
        · have h := h.2 hc
          refine bi_Tr 2 (s' := (437, [(6, .int r12), (5, .int r11), (0, .ref 4999), (1, .ref 0), (2, .ref 77), (3, .ref 112), (4, .int y4)], [.int (0 : Int32), .ref 112], st_mm s13)) rfl ?_
          obtain ⟨hi, h⟩ := h
          refine bi_Tlal rfl rfl hi ?_
          refine bi_Tr 4 (s' := ((if (lg_cmp (st_gl s13 112 ((0 : Int32)).toNatClampNeg) (r12).toInt64) = 0 then 447 else 445), [(6, .int r12), (5, .int r11), (0, .ref 4999), (1, .ref 0), (2, .ref 77), (3, .ref 112), (4, .int y4)], [], st_mm s13)) rfl (bi_Tif (fun hc => ?_) (fun hc => ?_))
          · have h := h.1 hc
            refine bi_Tr 3 (s' := (23, [(4, .int (y4 + (6 : Int32))), (6, .int r12), (5, .int r11), (0, .ref 4999), (1, .ref 0), (2, .ref 77), (3, .ref 112)], [], st_mm s13)) rfl ?_
            exact bi_Tww h rfl rfl ⟨rfl, rfl, rfl, rfl, rfl, trivial⟩
          · have h := h.2 hc
            refine bi_Tr 1 (s' := (446, [(6, .int r12), (5, .int r11), (0, .ref 4999), (1, .ref 0), (2, .ref 77), (3, .ref 112), (4, .int y4)], [.int (0 : Int32)], st_mm s13)) rfl ?_
            exact bi_Tv rfl rfl (Or.inl ⟨_, _, rfl, h⟩)
      · have h := h.2 hc
        refine bi_Tr 1 (s' := (429, [(6, .int r12), (5, .int r11), (0, .ref 4999), (1, .ref 0), (2, .ref 77), (3, .ref 112), (4, .int y4)], [.int (0 : Int32)], st_mm s13)) rfl ?_
        exact bi_Tv rfl rfl (Or.inl ⟨_, _, rfl, h⟩)
    have h := h.2 hc
    have hn4 := lv_neT hc (a := 4) rfl
    by_cases hc : ((X.2 (y4).toNatClampNeg) &&& (31 : Int32)) = (5 : Int32)
    · rw [hc] at ht; cases ht
      have h := h.1 hc
      refine bi_Tr 5 (s' := (456, [(0, .ref 4999), (1, .ref 0), (2, .ref 77), (3, .ref 112), (4, .int y4)], [.int (y4 + (1 : Int32)), .ref 4999, .ref 0], st_mm s)) rfl ?_
      obtain ⟨hi, h⟩ := h
      refine bi_Tsal rfl hi ?_
      refine bi_Tr 4 (s' := (462, [(0, .ref 4999), (1, .ref 0), (2, .ref 77), (3, .ref 112), (4, .int y4)], [.int (y4 + (2 : Int32)), .ref 4999, .int (X.2 ((y4 + (1 : Int32))).toNatClampNeg), .ref 0], st_mm s)) rfl ?_
      obtain ⟨hi, h⟩ := h
      refine bi_Tsal rfl hi ?_
      refine bi_Tr 1 (s' := (464, [(0, .ref 4999), (1, .ref 0), (2, .ref 77), (3, .ref 112), (4, .int y4)], [.ref 112, .int (X.2 ((y4 + (2 : Int32))).toNatClampNeg), .int (X.2 ((y4 + (1 : Int32))).toNatClampNeg), .ref 0], st_mm s)) rfl ?_
      refine bi_TcI (as := [.ref 0, .int (X.2 ((y4 + (1 : Int32))).toNatClampNeg), .int (X.2 ((y4 + (2 : Int32))).toNatClampNeg), .ref 112]) rfl rfl ?_
      refine cI.mono h (fun r14 s14 h => ?_) (fun _ _ h => h.elim)
      refine bi_Tr 6 (s' := (475, [(5, .int r14), (0, .ref 4999), (1, .ref 0), (2, .ref 77), (3, .ref 112), (4, .int y4)], [.int (y4 + (1 : Int32)), .ref 4999, .ref 77], st_mm s14)) rfl ?_
      obtain ⟨hi, h⟩ := h
      refine bi_Tsal rfl hi ?_
      refine bi_Tr 4 (s' := (481, [(5, .int r14), (0, .ref 4999), (1, .ref 0), (2, .ref 77), (3, .ref 112), (4, .int y4)], [.int (y4 + (2 : Int32)), .ref 4999, .int (X.2 ((y4 + (1 : Int32))).toNatClampNeg), .ref 77], st_mm s14)) rfl ?_
      obtain ⟨hi, h⟩ := h
      refine bi_Tsal rfl hi ?_
      refine bi_TcI (as := [.ref 77, .int (X.2 ((y4 + (1 : Int32))).toNatClampNeg), .int (X.2 ((y4 + (2 : Int32))).toNatClampNeg)]) rfl rfl ?_
      refine cI.mono h (fun r15 s15 h => ?_) (fun _ _ h => h.elim)
      refine bi_Tr 2 (s' := (488, [(6, .int r15), (5, .int r14), (0, .ref 4999), (1, .ref 0), (2, .ref 77), (3, .ref 112), (4, .int y4)], [.ref 77], st_mm s15)) rfl ?_
      refine bi_TcI (as := [.ref 77]) rfl rfl ?_
      refine cI.mono h (fun r16 s16 h => ?_) (fun _ _ h => h.elim)
      refine bi_Tr 2 (s' := ((if r16 = r14 then 498 else 496), [(6, .int r15), (5, .int r14), (0, .ref 4999), (1, .ref 0), (2, .ref 77), (3, .ref 112), (4, .int y4)], [], st_mm s16)) rfl (bi_Tif (fun hc => ?_) (fun hc => ?_))
      · have h := h.1 hc
        refine bi_Tr 2 (s' := ((if ¬ r14 = 0 then 515 else 503), [(6, .int r15), (5, .int r14), (0, .ref 4999), (1, .ref 0), (2, .ref 77), (3, .ref 112), (4, .int y4)], [], st_mm s16)) rfl (bi_Tif (fun hc => ?_) (fun hc => ?_))
        · have h := h.1 hc
          refine bi_Tr 3 (s' := (23, [(4, .int (y4 + (6 : Int32))), (6, .int r15), (5, .int r14), (0, .ref 4999), (1, .ref 0), (2, .ref 77), (3, .ref 112)], [], st_mm s16)) rfl ?_
          exact bi_Tww h rfl rfl ⟨rfl, rfl, rfl, rfl, rfl, trivial⟩
        · have h := h.2 hc
          refine bi_Tr 2 (s' := (505, [(6, .int r15), (5, .int r14), (0, .ref 4999), (1, .ref 0), (2, .ref 77), (3, .ref 112), (4, .int y4)], [.int (0 : Int32), .ref 112], st_mm s16)) rfl ?_
          obtain ⟨hi, h⟩ := h
          refine bi_Tlal rfl rfl hi ?_
          refine bi_Tr 4 (s' := ((if (lg_cmp (st_gl s16 112 ((0 : Int32)).toNatClampNeg) (r15).toInt64) = 0 then 515 else 513), [(6, .int r15), (5, .int r14), (0, .ref 4999), (1, .ref 0), (2, .ref 77), (3, .ref 112), (4, .int y4)], [], st_mm s16)) rfl (bi_Tif (fun hc => ?_) (fun hc => ?_))
          · have h := h.1 hc
            refine bi_Tr 3 (s' := (23, [(4, .int (y4 + (6 : Int32))), (6, .int r15), (5, .int r14), (0, .ref 4999), (1, .ref 0), (2, .ref 77), (3, .ref 112)], [], st_mm s16)) rfl ?_
            exact bi_Tww h rfl rfl ⟨rfl, rfl, rfl, rfl, rfl, trivial⟩
          · have h := h.2 hc
            refine bi_Tr 1 (s' := (514, [(6, .int r15), (5, .int r14), (0, .ref 4999), (1, .ref 0), (2, .ref 77), (3, .ref 112), (4, .int y4)], [.int (0 : Int32)], st_mm s16)) rfl ?_
            exact bi_Tv rfl rfl (Or.inl ⟨_, _, rfl, h⟩)
      · have h := h.2 hc
        refine bi_Tr 1 (s' := (497, [(6, .int r15), (5, .int r14), (0, .ref 4999), (1, .ref 0), (2, .ref 77), (3, .ref 112), (4, .int y4)], [.int (0 : Int32)], st_mm s16)) rfl ?_
        exact bi_Tv rfl rfl (Or.inl ⟨_, _, rfl, h⟩)
    have h := h.2 hc
    have hn5 := lv_neT hc (a := 5) rfl
    by_cases hc : ((X.2 (y4).toNatClampNeg) &&& (31 : Int32)) = (6 : Int32)
    · rw [hc] at ht; cases ht
      have h := h.1 hc
      refine bi_Tr 5 (s' := (524, [(0, .ref 4999), (1, .ref 0), (2, .ref 77), (3, .ref 112), (4, .int y4)], [.int (y4 + (1 : Int32)), .ref 4999, .ref 0], st_mm s)) rfl ?_
      obtain ⟨hi, h⟩ := h
      refine bi_Tsal rfl hi ?_
      refine bi_Tr 4 (s' := (530, [(0, .ref 4999), (1, .ref 0), (2, .ref 77), (3, .ref 112), (4, .int y4)], [.int (y4 + (2 : Int32)), .ref 4999, .int (X.2 ((y4 + (1 : Int32))).toNatClampNeg), .ref 0], st_mm s)) rfl ?_
      obtain ⟨hi, h⟩ := h
      refine bi_Tsal rfl hi ?_
      refine bi_Tr 1 (s' := (532, [(0, .ref 4999), (1, .ref 0), (2, .ref 77), (3, .ref 112), (4, .int y4)], [.ref 112, .int (X.2 ((y4 + (2 : Int32))).toNatClampNeg), .int (X.2 ((y4 + (1 : Int32))).toNatClampNeg), .ref 0], st_mm s)) rfl ?_
      refine bi_TcI (as := [.ref 0, .int (X.2 ((y4 + (1 : Int32))).toNatClampNeg), .int (X.2 ((y4 + (2 : Int32))).toNatClampNeg), .ref 112]) rfl rfl ?_
      refine cI.mono h (fun r17 s17 h => ?_) (fun _ _ h => h.elim)
      refine bi_Tr 6 (s' := (543, [(5, .int r17), (0, .ref 4999), (1, .ref 0), (2, .ref 77), (3, .ref 112), (4, .int y4)], [.int (y4 + (1 : Int32)), .ref 4999, .ref 77], st_mm s17)) rfl ?_
      obtain ⟨hi, h⟩ := h
      refine bi_Tsal rfl hi ?_
      refine bi_Tr 4 (s' := (549, [(5, .int r17), (0, .ref 4999), (1, .ref 0), (2, .ref 77), (3, .ref 112), (4, .int y4)], [.int (y4 + (2 : Int32)), .ref 4999, .int (X.2 ((y4 + (1 : Int32))).toNatClampNeg), .ref 77], st_mm s17)) rfl ?_
      obtain ⟨hi, h⟩ := h
      refine bi_Tsal rfl hi ?_
      refine bi_TcI (as := [.ref 77, .int (X.2 ((y4 + (1 : Int32))).toNatClampNeg), .int (X.2 ((y4 + (2 : Int32))).toNatClampNeg)]) rfl rfl ?_
      refine cI.mono h (fun r18 s18 h => ?_) (fun _ _ h => h.elim)
      refine bi_Tr 2 (s' := (556, [(6, .int r18), (5, .int r17), (0, .ref 4999), (1, .ref 0), (2, .ref 77), (3, .ref 112), (4, .int y4)], [.ref 77], st_mm s18)) rfl ?_
      refine bi_TcI (as := [.ref 77]) rfl rfl ?_
      refine cI.mono h (fun r19 s19 h => ?_) (fun _ _ h => h.elim)
      refine bi_Tr 2 (s' := ((if r19 = r17 then 566 else 564), [(6, .int r18), (5, .int r17), (0, .ref 4999), (1, .ref 0), (2, .ref 77), (3, .ref 112), (4, .int y4)], [], st_mm s19)) rfl (bi_Tif (fun hc => ?_) (fun hc => ?_))
      · have h := h.1 hc
        refine bi_Tr 2 (s' := ((if ¬ r17 = 0 then 583 else 571), [(6, .int r18), (5, .int r17), (0, .ref 4999), (1, .ref 0), (2, .ref 77), (3, .ref 112), (4, .int y4)], [], st_mm s19)) rfl (bi_Tif (fun hc => ?_) (fun hc => ?_))
        · have h := h.1 hc
          refine bi_Tr 3 (s' := (23, [(4, .int (y4 + (6 : Int32))), (6, .int r18), (5, .int r17), (0, .ref 4999), (1, .ref 0), (2, .ref 77), (3, .ref 112)], [], st_mm s19)) rfl ?_
          exact bi_Tww h rfl rfl ⟨rfl, rfl, rfl, rfl, rfl, trivial⟩
        · have h := h.2 hc
          refine bi_Tr 2 (s' := (573, [(6, .int r18), (5, .int r17), (0, .ref 4999), (1, .ref 0), (2, .ref 77), (3, .ref 112), (4, .int y4)], [.int (0 : Int32), .ref 112], st_mm s19)) rfl ?_
          obtain ⟨hi, h⟩ := h
          refine bi_Tlal rfl rfl hi ?_
          refine bi_Tr 4 (s' := ((if (lg_cmp (st_gl s19 112 ((0 : Int32)).toNatClampNeg) (r18).toInt64) = 0 then 583 else 581), [(6, .int r18), (5, .int r17), (0, .ref 4999), (1, .ref 0), (2, .ref 77), (3, .ref 112), (4, .int y4)], [], st_mm s19)) rfl (bi_Tif (fun hc => ?_) (fun hc => ?_))
          · have h := h.1 hc
            refine bi_Tr 3 (s' := (23, [(4, .int (y4 + (6 : Int32))), (6, .int r18), (5, .int r17), (0, .ref 4999), (1, .ref 0), (2, .ref 77), (3, .ref 112)], [], st_mm s19)) rfl ?_
            exact bi_Tww h rfl rfl ⟨rfl, rfl, rfl, rfl, rfl, trivial⟩
          · have h := h.2 hc
            refine bi_Tr 1 (s' := (582, [(6, .int r18), (5, .int r17), (0, .ref 4999), (1, .ref 0), (2, .ref 77), (3, .ref 112), (4, .int y4)], [.int (0 : Int32)], st_mm s19)) rfl ?_
            exact bi_Tv rfl rfl (Or.inl ⟨_, _, rfl, h⟩)
      · have h := h.2 hc
        refine bi_Tr 1 (s' := (565, [(6, .int r18), (5, .int r17), (0, .ref 4999), (1, .ref 0), (2, .ref 77), (3, .ref 112), (4, .int y4)], [.int (0 : Int32)], st_mm s19)) rfl ?_
        exact bi_Tv rfl rfl (Or.inl ⟨_, _, rfl, h⟩)
    have h := h.2 hc
    have hn6 := lv_neT hc (a := 6) rfl
    by_cases hc : ((X.2 (y4).toNatClampNeg) &&& (31 : Int32)) = (7 : Int32)
    · rw [hc] at ht; cases ht
      have h := h.1 hc
      refine bi_Tr 5 (s' := (592, [(0, .ref 4999), (1, .ref 0), (2, .ref 77), (3, .ref 112), (4, .int y4)], [.int (y4 + (1 : Int32)), .ref 4999, .ref 0], st_mm s)) rfl ?_
      obtain ⟨hi, h⟩ := h
      refine bi_Tsal rfl hi ?_
      refine bi_Tr 4 (s' := (598, [(0, .ref 4999), (1, .ref 0), (2, .ref 77), (3, .ref 112), (4, .int y4)], [.int (y4 + (2 : Int32)), .ref 4999, .int (X.2 ((y4 + (1 : Int32))).toNatClampNeg), .ref 0], st_mm s)) rfl ?_
      obtain ⟨hi, h⟩ := h
      refine bi_Tsal rfl hi ?_
      refine bi_Tr 1 (s' := (600, [(0, .ref 4999), (1, .ref 0), (2, .ref 77), (3, .ref 112), (4, .int y4)], [.ref 112, .int (X.2 ((y4 + (2 : Int32))).toNatClampNeg), .int (X.2 ((y4 + (1 : Int32))).toNatClampNeg), .ref 0], st_mm s)) rfl ?_
      refine bi_TcI (as := [.ref 0, .int (X.2 ((y4 + (1 : Int32))).toNatClampNeg), .int (X.2 ((y4 + (2 : Int32))).toNatClampNeg), .ref 112]) rfl rfl ?_
      refine cI.mono h (fun r20 s20 h => ?_) (fun _ _ h => h.elim)
      refine bi_Tr 6 (s' := (611, [(5, .int r20), (0, .ref 4999), (1, .ref 0), (2, .ref 77), (3, .ref 112), (4, .int y4)], [.int (y4 + (1 : Int32)), .ref 4999, .ref 77], st_mm s20)) rfl ?_
      obtain ⟨hi, h⟩ := h
      refine bi_Tsal rfl hi ?_
      refine bi_Tr 4 (s' := (617, [(5, .int r20), (0, .ref 4999), (1, .ref 0), (2, .ref 77), (3, .ref 112), (4, .int y4)], [.int (y4 + (2 : Int32)), .ref 4999, .int (X.2 ((y4 + (1 : Int32))).toNatClampNeg), .ref 77], st_mm s20)) rfl ?_
      obtain ⟨hi, h⟩ := h
      refine bi_Tsal rfl hi ?_
      refine bi_TcI (as := [.ref 77, .int (X.2 ((y4 + (1 : Int32))).toNatClampNeg), .int (X.2 ((y4 + (2 : Int32))).toNatClampNeg)]) rfl rfl ?_
      refine cI.mono h (fun r21 s21 h => ?_) (fun _ _ h => h.elim)
      refine bi_Tr 2 (s' := (624, [(6, .int r21), (5, .int r20), (0, .ref 4999), (1, .ref 0), (2, .ref 77), (3, .ref 112), (4, .int y4)], [.ref 77], st_mm s21)) rfl ?_
      refine bi_TcI (as := [.ref 77]) rfl rfl ?_
      refine cI.mono h (fun r22 s22 h => ?_) (fun _ _ h => h.elim)
      refine bi_Tr 2 (s' := ((if r22 = r20 then 634 else 632), [(6, .int r21), (5, .int r20), (0, .ref 4999), (1, .ref 0), (2, .ref 77), (3, .ref 112), (4, .int y4)], [], st_mm s22)) rfl (bi_Tif (fun hc => ?_) (fun hc => ?_))
      · have h := h.1 hc
        refine bi_Tr 2 (s' := ((if ¬ r20 = 0 then 651 else 639), [(6, .int r21), (5, .int r20), (0, .ref 4999), (1, .ref 0), (2, .ref 77), (3, .ref 112), (4, .int y4)], [], st_mm s22)) rfl (bi_Tif (fun hc => ?_) (fun hc => ?_))
        · have h := h.1 hc
          refine bi_Tr 3 (s' := (23, [(4, .int (y4 + (6 : Int32))), (6, .int r21), (5, .int r20), (0, .ref 4999), (1, .ref 0), (2, .ref 77), (3, .ref 112)], [], st_mm s22)) rfl ?_
          exact bi_Tww h rfl rfl ⟨rfl, rfl, rfl, rfl, rfl, trivial⟩
        · have h := h.2 hc
          refine bi_Tr 2 (s' := (641, [(6, .int r21), (5, .int r20), (0, .ref 4999), (1, .ref 0), (2, .ref 77), (3, .ref 112), (4, .int y4)], [.int (0 : Int32), .ref 112], st_mm s22)) rfl ?_
          obtain ⟨hi, h⟩ := h
          refine bi_Tlal rfl rfl hi ?_
          refine bi_Tr 4 (s' := ((if (lg_cmp (st_gl s22 112 ((0 : Int32)).toNatClampNeg) (r21).toInt64) = 0 then 651 else 649), [(6, .int r21), (5, .int r20), (0, .ref 4999), (1, .ref 0), (2, .ref 77), (3, .ref 112), (4, .int y4)], [], st_mm s22)) rfl (bi_Tif (fun hc => ?_) (fun hc => ?_))
          · have h := h.1 hc
            refine bi_Tr 3 (s' := (23, [(4, .int (y4 + (6 : Int32))), (6, .int r21), (5, .int r20), (0, .ref 4999), (1, .ref 0), (2, .ref 77), (3, .ref 112)], [], st_mm s22)) rfl ?_
            exact bi_Tww h rfl rfl ⟨rfl, rfl, rfl, rfl, rfl, trivial⟩
          · have h := h.2 hc
            refine bi_Tr 1 (s' := (650, [(6, .int r21), (5, .int r20), (0, .ref 4999), (1, .ref 0), (2, .ref 77), (3, .ref 112), (4, .int y4)], [.int (0 : Int32)], st_mm s22)) rfl ?_
            exact bi_Tv rfl rfl (Or.inl ⟨_, _, rfl, h⟩)
      · have h := h.2 hc
        refine bi_Tr 1 (s' := (633, [(6, .int r21), (5, .int r20), (0, .ref 4999), (1, .ref 0), (2, .ref 77), (3, .ref 112), (4, .int y4)], [.int (0 : Int32)], st_mm s22)) rfl ?_
        exact bi_Tv rfl rfl (Or.inl ⟨_, _, rfl, h⟩)
    have h := h.2 hc
    have hn7 := lv_neT hc (a := 7) rfl
    by_cases hc : ((X.2 (y4).toNatClampNeg) &&& (31 : Int32)) = (8 : Int32)
    · rw [hc] at ht; cases ht
      have h := h.1 hc
      refine bi_Tr 5 (s' := (660, [(0, .ref 4999), (1, .ref 0), (2, .ref 77), (3, .ref 112), (4, .int y4)], [.int (y4 + (1 : Int32)), .ref 4999, .ref 0], st_mm s)) rfl ?_
      obtain ⟨hi, h⟩ := h
      refine bi_Tsal rfl hi ?_
      refine bi_Tr 4 (s' := (666, [(0, .ref 4999), (1, .ref 0), (2, .ref 77), (3, .ref 112), (4, .int y4)], [.int (y4 + (2 : Int32)), .ref 4999, .int (X.2 ((y4 + (1 : Int32))).toNatClampNeg), .ref 0], st_mm s)) rfl ?_
      obtain ⟨hi, h⟩ := h
      refine bi_Tsal rfl hi ?_
      refine bi_Tr 1 (s' := (668, [(0, .ref 4999), (1, .ref 0), (2, .ref 77), (3, .ref 112), (4, .int y4)], [.ref 112, .int (X.2 ((y4 + (2 : Int32))).toNatClampNeg), .int (X.2 ((y4 + (1 : Int32))).toNatClampNeg), .ref 0], st_mm s)) rfl ?_
      refine bi_TcI (as := [.ref 0, .int (X.2 ((y4 + (1 : Int32))).toNatClampNeg), .int (X.2 ((y4 + (2 : Int32))).toNatClampNeg), .ref 112]) rfl rfl ?_
      refine cI.mono h (fun r23 s23 h => ?_) (fun _ _ h => h.elim)
      refine bi_Tr 6 (s' := (679, [(5, .int r23), (0, .ref 4999), (1, .ref 0), (2, .ref 77), (3, .ref 112), (4, .int y4)], [.int (y4 + (1 : Int32)), .ref 4999, .ref 77], st_mm s23)) rfl ?_
      obtain ⟨hi, h⟩ := h
      refine bi_Tsal rfl hi ?_
      refine bi_Tr 4 (s' := (685, [(5, .int r23), (0, .ref 4999), (1, .ref 0), (2, .ref 77), (3, .ref 112), (4, .int y4)], [.int (y4 + (2 : Int32)), .ref 4999, .int (X.2 ((y4 + (1 : Int32))).toNatClampNeg), .ref 77], st_mm s23)) rfl ?_
      obtain ⟨hi, h⟩ := h
      refine bi_Tsal rfl hi ?_
      refine bi_TcI (as := [.ref 77, .int (X.2 ((y4 + (1 : Int32))).toNatClampNeg), .int (X.2 ((y4 + (2 : Int32))).toNatClampNeg)]) rfl rfl ?_
      refine cI.mono h (fun r24 s24 h => ?_) (fun _ _ h => h.elim)
      refine bi_Tr 2 (s' := (692, [(6, .int r24), (5, .int r23), (0, .ref 4999), (1, .ref 0), (2, .ref 77), (3, .ref 112), (4, .int y4)], [.ref 77], st_mm s24)) rfl ?_
      refine bi_TcI (as := [.ref 77]) rfl rfl ?_
      refine cI.mono h (fun r25 s25 h => ?_) (fun _ _ h => h.elim)
      refine bi_Tr 2 (s' := ((if r25 = r23 then 702 else 700), [(6, .int r24), (5, .int r23), (0, .ref 4999), (1, .ref 0), (2, .ref 77), (3, .ref 112), (4, .int y4)], [], st_mm s25)) rfl (bi_Tif (fun hc => ?_) (fun hc => ?_))
      · have h := h.1 hc
        refine bi_Tr 2 (s' := ((if ¬ r23 = 0 then 719 else 707), [(6, .int r24), (5, .int r23), (0, .ref 4999), (1, .ref 0), (2, .ref 77), (3, .ref 112), (4, .int y4)], [], st_mm s25)) rfl (bi_Tif (fun hc => ?_) (fun hc => ?_))
        · have h := h.1 hc
          refine bi_Tr 3 (s' := (23, [(4, .int (y4 + (6 : Int32))), (6, .int r24), (5, .int r23), (0, .ref 4999), (1, .ref 0), (2, .ref 77), (3, .ref 112)], [], st_mm s25)) rfl ?_
          exact bi_Tww h rfl rfl ⟨rfl, rfl, rfl, rfl, rfl, trivial⟩
        · have h := h.2 hc
          refine bi_Tr 2 (s' := (709, [(6, .int r24), (5, .int r23), (0, .ref 4999), (1, .ref 0), (2, .ref 77), (3, .ref 112), (4, .int y4)], [.int (0 : Int32), .ref 112], st_mm s25)) rfl ?_
          obtain ⟨hi, h⟩ := h
          refine bi_Tlal rfl rfl hi ?_
          refine bi_Tr 4 (s' := ((if (lg_cmp (st_gl s25 112 ((0 : Int32)).toNatClampNeg) (r24).toInt64) = 0 then 719 else 717), [(6, .int r24), (5, .int r23), (0, .ref 4999), (1, .ref 0), (2, .ref 77), (3, .ref 112), (4, .int y4)], [], st_mm s25)) rfl (bi_Tif (fun hc => ?_) (fun hc => ?_))
          · have h := h.1 hc
            refine bi_Tr 3 (s' := (23, [(4, .int (y4 + (6 : Int32))), (6, .int r24), (5, .int r23), (0, .ref 4999), (1, .ref 0), (2, .ref 77), (3, .ref 112)], [], st_mm s25)) rfl ?_
            exact bi_Tww h rfl rfl ⟨rfl, rfl, rfl, rfl, rfl, trivial⟩
          · have h := h.2 hc
            refine bi_Tr 1 (s' := (718, [(6, .int r24), (5, .int r23), (0, .ref 4999), (1, .ref 0), (2, .ref 77), (3, .ref 112), (4, .int y4)], [.int (0 : Int32)], st_mm s25)) rfl ?_
            exact bi_Tv rfl rfl (Or.inl ⟨_, _, rfl, h⟩)
      · have h := h.2 hc
        refine bi_Tr 1 (s' := (701, [(6, .int r24), (5, .int r23), (0, .ref 4999), (1, .ref 0), (2, .ref 77), (3, .ref 112), (4, .int y4)], [.int (0 : Int32)], st_mm s25)) rfl ?_
        exact bi_Tv rfl rfl (Or.inl ⟨_, _, rfl, h⟩)
    have h := h.2 hc
    have hn8 := lv_neT hc (a := 8) rfl
    by_cases hc : ((X.2 (y4).toNatClampNeg) &&& (31 : Int32)) = (9 : Int32)
    · rw [hc] at ht; cases ht
      have h := h.1 hc
      refine bi_Tr 5 (s' := (728, [(0, .ref 4999), (1, .ref 0), (2, .ref 77), (3, .ref 112), (4, .int y4)], [.int (y4 + (1 : Int32)), .ref 4999, .ref 0], st_mm s)) rfl ?_
      obtain ⟨hi, h⟩ := h
      refine bi_Tsal rfl hi ?_
      refine bi_Tr 1 (s' := (730, [(0, .ref 4999), (1, .ref 0), (2, .ref 77), (3, .ref 112), (4, .int y4)], [.ref 112, .int (X.2 ((y4 + (1 : Int32))).toNatClampNeg), .ref 0], st_mm s)) rfl ?_
      refine bi_TcI (as := [.ref 0, .int (X.2 ((y4 + (1 : Int32))).toNatClampNeg), .ref 112]) rfl rfl ?_
      refine cI.mono h (fun r26 s26 h => ?_) (fun _ _ h => h.elim)
      refine bi_Tr 6 (s' := (741, [(5, .int r26), (0, .ref 4999), (1, .ref 0), (2, .ref 77), (3, .ref 112), (4, .int y4)], [.int (y4 + (1 : Int32)), .ref 4999, .ref 77], st_mm s26)) rfl ?_
      obtain ⟨hi, h⟩ := h
      refine bi_Tsal rfl hi ?_
      refine bi_TcI (as := [.ref 77, .int (X.2 ((y4 + (1 : Int32))).toNatClampNeg)]) rfl rfl ?_
      refine cI.mono h (fun r27 s27 h => ?_) (fun _ _ h => h.elim)
      refine bi_Tr 2 (s' := (748, [(6, .int r27), (5, .int r26), (0, .ref 4999), (1, .ref 0), (2, .ref 77), (3, .ref 112), (4, .int y4)], [.ref 77], st_mm s27)) rfl ?_
      refine bi_TcI (as := [.ref 77]) rfl rfl ?_
      refine cI.mono h (fun r28 s28 h => ?_) (fun _ _ h => h.elim)
      refine bi_Tr 2 (s' := ((if r28 = r26 then 758 else 756), [(6, .int r27), (5, .int r26), (0, .ref 4999), (1, .ref 0), (2, .ref 77), (3, .ref 112), (4, .int y4)], [], st_mm s28)) rfl (bi_Tif (fun hc => ?_) (fun hc => ?_))
      · have h := h.1 hc
        refine bi_Tr 2 (s' := ((if ¬ r26 = 0 then 775 else 763), [(6, .int r27), (5, .int r26), (0, .ref 4999), (1, .ref 0), (2, .ref 77), (3, .ref 112), (4, .int y4)], [], st_mm s28)) rfl (bi_Tif (fun hc => ?_) (fun hc => ?_))
        · have h := h.1 hc
          refine bi_Tr 3 (s' := (23, [(4, .int (y4 + (6 : Int32))), (6, .int r27), (5, .int r26), (0, .ref 4999), (1, .ref 0), (2, .ref 77), (3, .ref 112)], [], st_mm s28)) rfl ?_
          exact bi_Tww h rfl rfl ⟨rfl, rfl, rfl, rfl, rfl, trivial⟩
        · have h := h.2 hc
          refine bi_Tr 2 (s' := (765, [(6, .int r27), (5, .int r26), (0, .ref 4999), (1, .ref 0), (2, .ref 77), (3, .ref 112), (4, .int y4)], [.int (0 : Int32), .ref 112], st_mm s28)) rfl ?_
          obtain ⟨hi, h⟩ := h
          refine bi_Tlal rfl rfl hi ?_
          refine bi_Tr 4 (s' := ((if (lg_cmp (st_gl s28 112 ((0 : Int32)).toNatClampNeg) (r27).toInt64) = 0 then 775 else 773), [(6, .int r27), (5, .int r26), (0, .ref 4999), (1, .ref 0), (2, .ref 77), (3, .ref 112), (4, .int y4)], [], st_mm s28)) rfl (bi_Tif (fun hc => ?_) (fun hc => ?_))
          · have h := h.1 hc
            refine bi_Tr 3 (s' := (23, [(4, .int (y4 + (6 : Int32))), (6, .int r27), (5, .int r26), (0, .ref 4999), (1, .ref 0), (2, .ref 77), (3, .ref 112)], [], st_mm s28)) rfl ?_
            exact bi_Tww h rfl rfl ⟨rfl, rfl, rfl, rfl, rfl, trivial⟩
          · have h := h.2 hc
            refine bi_Tr 1 (s' := (774, [(6, .int r27), (5, .int r26), (0, .ref 4999), (1, .ref 0), (2, .ref 77), (3, .ref 112), (4, .int y4)], [.int (0 : Int32)], st_mm s28)) rfl ?_
            exact bi_Tv rfl rfl (Or.inl ⟨_, _, rfl, h⟩)
      · have h := h.2 hc
        refine bi_Tr 1 (s' := (757, [(6, .int r27), (5, .int r26), (0, .ref 4999), (1, .ref 0), (2, .ref 77), (3, .ref 112), (4, .int y4)], [.int (0 : Int32)], st_mm s28)) rfl ?_
        exact bi_Tv rfl rfl (Or.inl ⟨_, _, rfl, h⟩)
    have h := h.2 hc
    have hn9 := lv_neT hc (a := 9) rfl
    by_cases hc : ((X.2 (y4).toNatClampNeg) &&& (31 : Int32)) = (10 : Int32)
    · rw [hc] at ht; cases ht
      have h := h.1 hc
      refine bi_Tr 5 (s' := (784, [(0, .ref 4999), (1, .ref 0), (2, .ref 77), (3, .ref 112), (4, .int y4)], [.int (y4 + (1 : Int32)), .ref 4999, .ref 0], st_mm s)) rfl ?_
      obtain ⟨hi, h⟩ := h
      refine bi_Tsal rfl hi ?_
      refine bi_Tr 4 (s' := (790, [(0, .ref 4999), (1, .ref 0), (2, .ref 77), (3, .ref 112), (4, .int y4)], [.int (y4 + (2 : Int32)), .ref 4999, .int (X.2 ((y4 + (1 : Int32))).toNatClampNeg), .ref 0], st_mm s)) rfl ?_
      obtain ⟨hi, h⟩ := h
      refine bi_Tsal rfl hi ?_
      refine bi_Tr 1 (s' := (792, [(0, .ref 4999), (1, .ref 0), (2, .ref 77), (3, .ref 112), (4, .int y4)], [.ref 112, .int (X.2 ((y4 + (2 : Int32))).toNatClampNeg), .int (X.2 ((y4 + (1 : Int32))).toNatClampNeg), .ref 0], st_mm s)) rfl ?_
      refine bi_TcI (as := [.ref 0, .int (X.2 ((y4 + (1 : Int32))).toNatClampNeg), .int (X.2 ((y4 + (2 : Int32))).toNatClampNeg), .ref 112]) rfl rfl ?_
      refine cI.mono h (fun r29 s29 h => ?_) (fun _ _ h => h.elim)
      refine bi_Tr 6 (s' := (803, [(5, .int r29), (0, .ref 4999), (1, .ref 0), (2, .ref 77), (3, .ref 112), (4, .int y4)], [.int (y4 + (1 : Int32)), .ref 4999, .ref 77], st_mm s29)) rfl ?_
      obtain ⟨hi, h⟩ := h
      refine bi_Tsal rfl hi ?_
      refine bi_Tr 4 (s' := (809, [(5, .int r29), (0, .ref 4999), (1, .ref 0), (2, .ref 77), (3, .ref 112), (4, .int y4)], [.int (y4 + (2 : Int32)), .ref 4999, .int (X.2 ((y4 + (1 : Int32))).toNatClampNeg), .ref 77], st_mm s29)) rfl ?_
      obtain ⟨hi, h⟩ := h
      refine bi_Tsal rfl hi ?_
      refine bi_TcI (as := [.ref 77, .int (X.2 ((y4 + (1 : Int32))).toNatClampNeg), .int (X.2 ((y4 + (2 : Int32))).toNatClampNeg)]) rfl rfl ?_
      refine cI.mono h (fun r30 s30 h => ?_) (fun _ _ h => h.elim)
      refine bi_Tr 2 (s' := (816, [(6, .int r30), (5, .int r29), (0, .ref 4999), (1, .ref 0), (2, .ref 77), (3, .ref 112), (4, .int y4)], [.ref 77], st_mm s30)) rfl ?_
      refine bi_TcI (as := [.ref 77]) rfl rfl ?_
      refine cI.mono h (fun r31 s31 h => ?_) (fun _ _ h => h.elim)
      refine bi_Tr 2 (s' := ((if r31 = r29 then 826 else 824), [(6, .int r30), (5, .int r29), (0, .ref 4999), (1, .ref 0), (2, .ref 77), (3, .ref 112), (4, .int y4)], [], st_mm s31)) rfl (bi_Tif (fun hc => ?_) (fun hc => ?_))
      · have h := h.1 hc
        refine bi_Tr 2 (s' := ((if ¬ r29 = 0 then 843 else 831), [(6, .int r30), (5, .int r29), (0, .ref 4999), (1, .ref 0), (2, .ref 77), (3, .ref 112), (4, .int y4)], [], st_mm s31)) rfl (bi_Tif (fun hc => ?_) (fun hc => ?_))
        · have h := h.1 hc
          refine bi_Tr 3 (s' := (23, [(4, .int (y4 + (6 : Int32))), (6, .int r30), (5, .int r29), (0, .ref 4999), (1, .ref 0), (2, .ref 77), (3, .ref 112)], [], st_mm s31)) rfl ?_
          exact bi_Tww h rfl rfl ⟨rfl, rfl, rfl, rfl, rfl, trivial⟩
        · have h := h.2 hc
          refine bi_Tr 2 (s' := (833, [(6, .int r30), (5, .int r29), (0, .ref 4999), (1, .ref 0), (2, .ref 77), (3, .ref 112), (4, .int y4)], [.int (0 : Int32), .ref 112], st_mm s31)) rfl ?_
          obtain ⟨hi, h⟩ := h
          refine bi_Tlal rfl rfl hi ?_
          refine bi_Tr 4 (s' := ((if (lg_cmp (st_gl s31 112 ((0 : Int32)).toNatClampNeg) (r30).toInt64) = 0 then 843 else 841), [(6, .int r30), (5, .int r29), (0, .ref 4999), (1, .ref 0), (2, .ref 77), (3, .ref 112), (4, .int y4)], [], st_mm s31)) rfl (bi_Tif (fun hc => ?_) (fun hc => ?_))
          · have h := h.1 hc
            refine bi_Tr 3 (s' := (23, [(4, .int (y4 + (6 : Int32))), (6, .int r30), (5, .int r29), (0, .ref 4999), (1, .ref 0), (2, .ref 77), (3, .ref 112)], [], st_mm s31)) rfl ?_
            exact bi_Tww h rfl rfl ⟨rfl, rfl, rfl, rfl, rfl, trivial⟩
          · have h := h.2 hc
            refine bi_Tr 1 (s' := (842, [(6, .int r30), (5, .int r29), (0, .ref 4999), (1, .ref 0), (2, .ref 77), (3, .ref 112), (4, .int y4)], [.int (0 : Int32)], st_mm s31)) rfl ?_
            exact bi_Tv rfl rfl (Or.inl ⟨_, _, rfl, h⟩)
      · have h := h.2 hc
        refine bi_Tr 1 (s' := (825, [(6, .int r30), (5, .int r29), (0, .ref 4999), (1, .ref 0), (2, .ref 77), (3, .ref 112), (4, .int y4)], [.int (0 : Int32)], st_mm s31)) rfl ?_
        exact bi_Tv rfl rfl (Or.inl ⟨_, _, rfl, h⟩)
    have h := h.2 hc
    have hn10 := lv_neT hc (a := 10) rfl
    by_cases hc : ((X.2 (y4).toNatClampNeg) &&& (31 : Int32)) = (11 : Int32)
    · rw [hc] at ht; cases ht
      have h := h.1 hc
      refine bi_Tr 5 (s' := (852, [(0, .ref 4999), (1, .ref 0), (2, .ref 77), (3, .ref 112), (4, .int y4)], [.int (y4 + (1 : Int32)), .ref 4999, .ref 0], st_mm s)) rfl ?_
      obtain ⟨hi, h⟩ := h
      refine bi_Tsal rfl hi ?_
      refine bi_Tr 4 (s' := (858, [(0, .ref 4999), (1, .ref 0), (2, .ref 77), (3, .ref 112), (4, .int y4)], [.int (y4 + (2 : Int32)), .ref 4999, .int (X.2 ((y4 + (1 : Int32))).toNatClampNeg), .ref 0], st_mm s)) rfl ?_
      obtain ⟨hi, h⟩ := h
      refine bi_Tsal rfl hi ?_
      refine bi_Tr 4 (s' := (864, [(0, .ref 4999), (1, .ref 0), (2, .ref 77), (3, .ref 112), (4, .int y4)], [.int (y4 + (3 : Int32)), .ref 4999, .int (X.2 ((y4 + (2 : Int32))).toNatClampNeg), .int (X.2 ((y4 + (1 : Int32))).toNatClampNeg), .ref 0], st_mm s)) rfl ?_
      obtain ⟨hi, h⟩ := h
      refine bi_Tsal rfl hi ?_
      refine bi_Tr 4 (s' := (870, [(0, .ref 4999), (1, .ref 0), (2, .ref 77), (3, .ref 112), (4, .int y4)], [.int (y4 + (4 : Int32)), .ref 4999, .int (X.2 ((y4 + (3 : Int32))).toNatClampNeg), .int (X.2 ((y4 + (2 : Int32))).toNatClampNeg), .int (X.2 ((y4 + (1 : Int32))).toNatClampNeg), .ref 0], st_mm s)) rfl ?_
      obtain ⟨hi, h⟩ := h
      refine bi_Tsal rfl hi ?_
      refine bi_Tr 4 (s' := (876, [(0, .ref 4999), (1, .ref 0), (2, .ref 77), (3, .ref 112), (4, .int y4)], [.int (y4 + (5 : Int32)), .ref 4999, .int (X.2 ((y4 + (4 : Int32))).toNatClampNeg), .int (X.2 ((y4 + (3 : Int32))).toNatClampNeg), .int (X.2 ((y4 + (2 : Int32))).toNatClampNeg), .int (X.2 ((y4 + (1 : Int32))).toNatClampNeg), .ref 0], st_mm s)) rfl ?_
      obtain ⟨hi, h⟩ := h
      refine bi_Tsal rfl hi ?_
      refine bi_Tr 1 (s' := (878, [(0, .ref 4999), (1, .ref 0), (2, .ref 77), (3, .ref 112), (4, .int y4)], [.ref 112, .int (X.2 ((y4 + (5 : Int32))).toNatClampNeg), .int (X.2 ((y4 + (4 : Int32))).toNatClampNeg), .int (X.2 ((y4 + (3 : Int32))).toNatClampNeg), .int (X.2 ((y4 + (2 : Int32))).toNatClampNeg), .int (X.2 ((y4 + (1 : Int32))).toNatClampNeg), .ref 0], st_mm s)) rfl ?_
      refine bi_TcI (as := [.ref 0, .int (X.2 ((y4 + (1 : Int32))).toNatClampNeg), .int (X.2 ((y4 + (2 : Int32))).toNatClampNeg), .int (X.2 ((y4 + (3 : Int32))).toNatClampNeg), .int (X.2 ((y4 + (4 : Int32))).toNatClampNeg), .int (X.2 ((y4 + (5 : Int32))).toNatClampNeg), .ref 112]) rfl rfl ?_
      refine cI.mono h (fun r32 s32 h => ?_) (fun _ _ h => h.elim)
      refine bi_Tr 6 (s' := (889, [(5, .int r32), (0, .ref 4999), (1, .ref 0), (2, .ref 77), (3, .ref 112), (4, .int y4)], [.int (y4 + (1 : Int32)), .ref 4999, .ref 77], st_mm s32)) rfl ?_
      obtain ⟨hi, h⟩ := h
      refine bi_Tsal rfl hi ?_
      refine bi_Tr 4 (s' := (895, [(5, .int r32), (0, .ref 4999), (1, .ref 0), (2, .ref 77), (3, .ref 112), (4, .int y4)], [.int (y4 + (2 : Int32)), .ref 4999, .int (X.2 ((y4 + (1 : Int32))).toNatClampNeg), .ref 77], st_mm s32)) rfl ?_
      obtain ⟨hi, h⟩ := h
      refine bi_Tsal rfl hi ?_
      refine bi_Tr 4 (s' := (901, [(5, .int r32), (0, .ref 4999), (1, .ref 0), (2, .ref 77), (3, .ref 112), (4, .int y4)], [.int (y4 + (3 : Int32)), .ref 4999, .int (X.2 ((y4 + (2 : Int32))).toNatClampNeg), .int (X.2 ((y4 + (1 : Int32))).toNatClampNeg), .ref 77], st_mm s32)) rfl ?_
      obtain ⟨hi, h⟩ := h
      refine bi_Tsal rfl hi ?_
      refine bi_Tr 4 (s' := (907, [(5, .int r32), (0, .ref 4999), (1, .ref 0), (2, .ref 77), (3, .ref 112), (4, .int y4)], [.int (y4 + (4 : Int32)), .ref 4999, .int (X.2 ((y4 + (3 : Int32))).toNatClampNeg), .int (X.2 ((y4 + (2 : Int32))).toNatClampNeg), .int (X.2 ((y4 + (1 : Int32))).toNatClampNeg), .ref 77], st_mm s32)) rfl ?_
      obtain ⟨hi, h⟩ := h
      refine bi_Tsal rfl hi ?_
      refine bi_Tr 4 (s' := (913, [(5, .int r32), (0, .ref 4999), (1, .ref 0), (2, .ref 77), (3, .ref 112), (4, .int y4)], [.int (y4 + (5 : Int32)), .ref 4999, .int (X.2 ((y4 + (4 : Int32))).toNatClampNeg), .int (X.2 ((y4 + (3 : Int32))).toNatClampNeg), .int (X.2 ((y4 + (2 : Int32))).toNatClampNeg), .int (X.2 ((y4 + (1 : Int32))).toNatClampNeg), .ref 77], st_mm s32)) rfl ?_
      obtain ⟨hi, h⟩ := h
      refine bi_Tsal rfl hi ?_
      refine bi_TcI (as := [.ref 77, .int (X.2 ((y4 + (1 : Int32))).toNatClampNeg), .int (X.2 ((y4 + (2 : Int32))).toNatClampNeg), .int (X.2 ((y4 + (3 : Int32))).toNatClampNeg), .int (X.2 ((y4 + (4 : Int32))).toNatClampNeg), .int (X.2 ((y4 + (5 : Int32))).toNatClampNeg)]) rfl rfl ?_
      refine cI.mono h (fun r33 s33 h => ?_) (fun _ _ h => h.elim)
      refine bi_Tr 2 (s' := (920, [(6, .int r33), (5, .int r32), (0, .ref 4999), (1, .ref 0), (2, .ref 77), (3, .ref 112), (4, .int y4)], [.ref 77], st_mm s33)) rfl ?_
      refine bi_TcI (as := [.ref 77]) rfl rfl ?_
      refine cI.mono h (fun r34 s34 h => ?_) (fun _ _ h => h.elim)
      refine bi_Tr 2 (s' := ((if r34 = r32 then 930 else 928), [(6, .int r33), (5, .int r32), (0, .ref 4999), (1, .ref 0), (2, .ref 77), (3, .ref 112), (4, .int y4)], [], st_mm s34)) rfl (bi_Tif (fun hc => ?_) (fun hc => ?_))
      · have h := h.1 hc
        refine bi_Tr 2 (s' := ((if ¬ r32 = 0 then 947 else 935), [(6, .int r33), (5, .int r32), (0, .ref 4999), (1, .ref 0), (2, .ref 77), (3, .ref 112), (4, .int y4)], [], st_mm s34)) rfl (bi_Tif (fun hc => ?_) (fun hc => ?_))
        · have h := h.1 hc
          refine bi_Tr 3 (s' := (23, [(4, .int (y4 + (6 : Int32))), (6, .int r33), (5, .int r32), (0, .ref 4999), (1, .ref 0), (2, .ref 77), (3, .ref 112)], [], st_mm s34)) rfl ?_
          exact bi_Tww h rfl rfl ⟨rfl, rfl, rfl, rfl, rfl, trivial⟩
        · have h := h.2 hc
          refine bi_Tr 2 (s' := (937, [(6, .int r33), (5, .int r32), (0, .ref 4999), (1, .ref 0), (2, .ref 77), (3, .ref 112), (4, .int y4)], [.int (0 : Int32), .ref 112], st_mm s34)) rfl ?_
          obtain ⟨hi, h⟩ := h
          refine bi_Tlal rfl rfl hi ?_
          refine bi_Tr 4 (s' := ((if (lg_cmp (st_gl s34 112 ((0 : Int32)).toNatClampNeg) (r33).toInt64) = 0 then 947 else 945), [(6, .int r33), (5, .int r32), (0, .ref 4999), (1, .ref 0), (2, .ref 77), (3, .ref 112), (4, .int y4)], [], st_mm s34)) rfl (bi_Tif (fun hc => ?_) (fun hc => ?_))
          · have h := h.1 hc
            refine bi_Tr 3 (s' := (23, [(4, .int (y4 + (6 : Int32))), (6, .int r33), (5, .int r32), (0, .ref 4999), (1, .ref 0), (2, .ref 77), (3, .ref 112)], [], st_mm s34)) rfl ?_
            exact bi_Tww h rfl rfl ⟨rfl, rfl, rfl, rfl, rfl, trivial⟩
          · have h := h.2 hc
            refine bi_Tr 1 (s' := (946, [(6, .int r33), (5, .int r32), (0, .ref 4999), (1, .ref 0), (2, .ref 77), (3, .ref 112), (4, .int y4)], [.int (0 : Int32)], st_mm s34)) rfl ?_
            exact bi_Tv rfl rfl (Or.inl ⟨_, _, rfl, h⟩)
      · have h := h.2 hc
        refine bi_Tr 1 (s' := (929, [(6, .int r33), (5, .int r32), (0, .ref 4999), (1, .ref 0), (2, .ref 77), (3, .ref 112), (4, .int y4)], [.int (0 : Int32)], st_mm s34)) rfl ?_
        exact bi_Tv rfl rfl (Or.inl ⟨_, _, rfl, h⟩)
    have h := h.2 hc
    have hn11 := lv_neT hc (a := 11) rfl
    by_cases hc : ((X.2 (y4).toNatClampNeg) &&& (31 : Int32)) = (12 : Int32)
    · rw [hc] at ht; cases ht
      have h := h.1 hc
      refine bi_Tr 5 (s' := (956, [(0, .ref 4999), (1, .ref 0), (2, .ref 77), (3, .ref 112), (4, .int y4)], [.int (y4 + (1 : Int32)), .ref 4999, .ref 0], st_mm s)) rfl ?_
      obtain ⟨hi, h⟩ := h
      refine bi_Tsal rfl hi ?_
      refine bi_Tr 4 (s' := (962, [(0, .ref 4999), (1, .ref 0), (2, .ref 77), (3, .ref 112), (4, .int y4)], [.int (y4 + (2 : Int32)), .ref 4999, .int (X.2 ((y4 + (1 : Int32))).toNatClampNeg), .ref 0], st_mm s)) rfl ?_
      obtain ⟨hi, h⟩ := h
      refine bi_Tsal rfl hi ?_
      refine bi_Tr 4 (s' := (968, [(0, .ref 4999), (1, .ref 0), (2, .ref 77), (3, .ref 112), (4, .int y4)], [.int (y4 + (3 : Int32)), .ref 4999, .int (X.2 ((y4 + (2 : Int32))).toNatClampNeg), .int (X.2 ((y4 + (1 : Int32))).toNatClampNeg), .ref 0], st_mm s)) rfl ?_
      obtain ⟨hi, h⟩ := h
      refine bi_Tsal rfl hi ?_
      refine bi_Tr 4 (s' := (974, [(0, .ref 4999), (1, .ref 0), (2, .ref 77), (3, .ref 112), (4, .int y4)], [.int (y4 + (4 : Int32)), .ref 4999, .int (X.2 ((y4 + (3 : Int32))).toNatClampNeg), .int (X.2 ((y4 + (2 : Int32))).toNatClampNeg), .int (X.2 ((y4 + (1 : Int32))).toNatClampNeg), .ref 0], st_mm s)) rfl ?_
      obtain ⟨hi, h⟩ := h
      refine bi_Tsal rfl hi ?_
      refine bi_Tr 1 (s' := (976, [(0, .ref 4999), (1, .ref 0), (2, .ref 77), (3, .ref 112), (4, .int y4)], [.ref 112, .int (X.2 ((y4 + (4 : Int32))).toNatClampNeg), .int (X.2 ((y4 + (3 : Int32))).toNatClampNeg), .int (X.2 ((y4 + (2 : Int32))).toNatClampNeg), .int (X.2 ((y4 + (1 : Int32))).toNatClampNeg), .ref 0], st_mm s)) rfl ?_
      refine bi_TcI (as := [.ref 0, .int (X.2 ((y4 + (1 : Int32))).toNatClampNeg), .int (X.2 ((y4 + (2 : Int32))).toNatClampNeg), .int (X.2 ((y4 + (3 : Int32))).toNatClampNeg), .int (X.2 ((y4 + (4 : Int32))).toNatClampNeg), .ref 112]) rfl rfl ?_
      refine cI.mono h (fun r35 s35 h => ?_) (fun _ _ h => h.elim)
      refine bi_Tr 6 (s' := (987, [(5, .int r35), (0, .ref 4999), (1, .ref 0), (2, .ref 77), (3, .ref 112), (4, .int y4)], [.int (y4 + (1 : Int32)), .ref 4999, .ref 77], st_mm s35)) rfl ?_
      obtain ⟨hi, h⟩ := h
      refine bi_Tsal rfl hi ?_
      refine bi_Tr 4 (s' := (993, [(5, .int r35), (0, .ref 4999), (1, .ref 0), (2, .ref 77), (3, .ref 112), (4, .int y4)], [.int (y4 + (2 : Int32)), .ref 4999, .int (X.2 ((y4 + (1 : Int32))).toNatClampNeg), .ref 77], st_mm s35)) rfl ?_
      obtain ⟨hi, h⟩ := h
      refine bi_Tsal rfl hi ?_
      refine bi_Tr 4 (s' := (999, [(5, .int r35), (0, .ref 4999), (1, .ref 0), (2, .ref 77), (3, .ref 112), (4, .int y4)], [.int (y4 + (3 : Int32)), .ref 4999, .int (X.2 ((y4 + (2 : Int32))).toNatClampNeg), .int (X.2 ((y4 + (1 : Int32))).toNatClampNeg), .ref 77], st_mm s35)) rfl ?_
      obtain ⟨hi, h⟩ := h
      refine bi_Tsal rfl hi ?_
      refine bi_Tr 4 (s' := (1005, [(5, .int r35), (0, .ref 4999), (1, .ref 0), (2, .ref 77), (3, .ref 112), (4, .int y4)], [.int (y4 + (4 : Int32)), .ref 4999, .int (X.2 ((y4 + (3 : Int32))).toNatClampNeg), .int (X.2 ((y4 + (2 : Int32))).toNatClampNeg), .int (X.2 ((y4 + (1 : Int32))).toNatClampNeg), .ref 77], st_mm s35)) rfl ?_
      obtain ⟨hi, h⟩ := h
      refine bi_Tsal rfl hi ?_
      refine bi_TcI (as := [.ref 77, .int (X.2 ((y4 + (1 : Int32))).toNatClampNeg), .int (X.2 ((y4 + (2 : Int32))).toNatClampNeg), .int (X.2 ((y4 + (3 : Int32))).toNatClampNeg), .int (X.2 ((y4 + (4 : Int32))).toNatClampNeg)]) rfl rfl ?_
      refine cI.mono h (fun r36 s36 h => ?_) (fun _ _ h => h.elim)
      refine bi_Tr 2 (s' := (1012, [(6, .int r36), (5, .int r35), (0, .ref 4999), (1, .ref 0), (2, .ref 77), (3, .ref 112), (4, .int y4)], [.ref 77], st_mm s36)) rfl ?_
      refine bi_TcI (as := [.ref 77]) rfl rfl ?_
      refine cI.mono h (fun r37 s37 h => ?_) (fun _ _ h => h.elim)
      refine bi_Tr 2 (s' := ((if r37 = r35 then 1022 else 1020), [(6, .int r36), (5, .int r35), (0, .ref 4999), (1, .ref 0), (2, .ref 77), (3, .ref 112), (4, .int y4)], [], st_mm s37)) rfl (bi_Tif (fun hc => ?_) (fun hc => ?_))
      · have h := h.1 hc
        refine bi_Tr 2 (s' := ((if ¬ r35 = 0 then 1039 else 1027), [(6, .int r36), (5, .int r35), (0, .ref 4999), (1, .ref 0), (2, .ref 77), (3, .ref 112), (4, .int y4)], [], st_mm s37)) rfl (bi_Tif (fun hc => ?_) (fun hc => ?_))
        · have h := h.1 hc
          refine bi_Tr 3 (s' := (23, [(4, .int (y4 + (6 : Int32))), (6, .int r36), (5, .int r35), (0, .ref 4999), (1, .ref 0), (2, .ref 77), (3, .ref 112)], [], st_mm s37)) rfl ?_
          exact bi_Tww h rfl rfl ⟨rfl, rfl, rfl, rfl, rfl, trivial⟩
        · have h := h.2 hc
          refine bi_Tr 2 (s' := (1029, [(6, .int r36), (5, .int r35), (0, .ref 4999), (1, .ref 0), (2, .ref 77), (3, .ref 112), (4, .int y4)], [.int (0 : Int32), .ref 112], st_mm s37)) rfl ?_
          obtain ⟨hi, h⟩ := h
          refine bi_Tlal rfl rfl hi ?_
          refine bi_Tr 4 (s' := ((if (lg_cmp (st_gl s37 112 ((0 : Int32)).toNatClampNeg) (r36).toInt64) = 0 then 1039 else 1037), [(6, .int r36), (5, .int r35), (0, .ref 4999), (1, .ref 0), (2, .ref 77), (3, .ref 112), (4, .int y4)], [], st_mm s37)) rfl (bi_Tif (fun hc => ?_) (fun hc => ?_))
          · have h := h.1 hc
            refine bi_Tr 3 (s' := (23, [(4, .int (y4 + (6 : Int32))), (6, .int r36), (5, .int r35), (0, .ref 4999), (1, .ref 0), (2, .ref 77), (3, .ref 112)], [], st_mm s37)) rfl ?_
            exact bi_Tww h rfl rfl ⟨rfl, rfl, rfl, rfl, rfl, trivial⟩
          · have h := h.2 hc
            refine bi_Tr 1 (s' := (1038, [(6, .int r36), (5, .int r35), (0, .ref 4999), (1, .ref 0), (2, .ref 77), (3, .ref 112), (4, .int y4)], [.int (0 : Int32)], st_mm s37)) rfl ?_
            exact bi_Tv rfl rfl (Or.inl ⟨_, _, rfl, h⟩)
      · have h := h.2 hc
        refine bi_Tr 1 (s' := (1021, [(6, .int r36), (5, .int r35), (0, .ref 4999), (1, .ref 0), (2, .ref 77), (3, .ref 112), (4, .int y4)], [.int (0 : Int32)], st_mm s37)) rfl ?_
        exact bi_Tv rfl rfl (Or.inl ⟨_, _, rfl, h⟩)
    have h := h.2 hc
    have hn12 := lv_neT hc (a := 12) rfl
    by_cases hc : ((X.2 (y4).toNatClampNeg) &&& (31 : Int32)) = (13 : Int32)
    · rw [hc] at ht; cases ht
      have h := h.1 hc
      refine bi_Tr 5 (s' := (1048, [(0, .ref 4999), (1, .ref 0), (2, .ref 77), (3, .ref 112), (4, .int y4)], [.int (y4 + (1 : Int32)), .ref 4999, .ref 0], st_mm s)) rfl ?_
      obtain ⟨hi, h⟩ := h
      refine bi_Tsal rfl hi ?_
      refine bi_Tr 4 (s' := (1054, [(0, .ref 4999), (1, .ref 0), (2, .ref 77), (3, .ref 112), (4, .int y4)], [.int (y4 + (2 : Int32)), .ref 4999, .int (X.2 ((y4 + (1 : Int32))).toNatClampNeg), .ref 0], st_mm s)) rfl ?_
      obtain ⟨hi, h⟩ := h
      refine bi_Tsal rfl hi ?_
      refine bi_Tr 1 (s' := (1056, [(0, .ref 4999), (1, .ref 0), (2, .ref 77), (3, .ref 112), (4, .int y4)], [.ref 112, .int (X.2 ((y4 + (2 : Int32))).toNatClampNeg), .int (X.2 ((y4 + (1 : Int32))).toNatClampNeg), .ref 0], st_mm s)) rfl ?_
      refine bi_TcI (as := [.ref 0, .int (X.2 ((y4 + (1 : Int32))).toNatClampNeg), .int (X.2 ((y4 + (2 : Int32))).toNatClampNeg), .ref 112]) rfl rfl ?_
      refine cI.mono h (fun r38 s38 h => ?_) (fun _ _ h => h.elim)
      refine bi_Tr 6 (s' := (1067, [(5, .int r38), (0, .ref 4999), (1, .ref 0), (2, .ref 77), (3, .ref 112), (4, .int y4)], [.int (y4 + (1 : Int32)), .ref 4999, .ref 77], st_mm s38)) rfl ?_
      obtain ⟨hi, h⟩ := h
      refine bi_Tsal rfl hi ?_
      refine bi_Tr 4 (s' := (1073, [(5, .int r38), (0, .ref 4999), (1, .ref 0), (2, .ref 77), (3, .ref 112), (4, .int y4)], [.int (y4 + (2 : Int32)), .ref 4999, .int (X.2 ((y4 + (1 : Int32))).toNatClampNeg), .ref 77], st_mm s38)) rfl ?_
      obtain ⟨hi, h⟩ := h
      refine bi_Tsal rfl hi ?_
      refine bi_TcI (as := [.ref 77, .int (X.2 ((y4 + (1 : Int32))).toNatClampNeg), .int (X.2 ((y4 + (2 : Int32))).toNatClampNeg)]) rfl rfl ?_
      refine cI.mono h (fun r39 s39 h => ?_) (fun _ _ h => h.elim)
      refine bi_Tr 2 (s' := (1080, [(6, .int r39), (5, .int r38), (0, .ref 4999), (1, .ref 0), (2, .ref 77), (3, .ref 112), (4, .int y4)], [.ref 77], st_mm s39)) rfl ?_
      refine bi_TcI (as := [.ref 77]) rfl rfl ?_
      refine cI.mono h (fun r40 s40 h => ?_) (fun _ _ h => h.elim)
      refine bi_Tr 2 (s' := ((if r40 = r38 then 1090 else 1088), [(6, .int r39), (5, .int r38), (0, .ref 4999), (1, .ref 0), (2, .ref 77), (3, .ref 112), (4, .int y4)], [], st_mm s40)) rfl (bi_Tif (fun hc => ?_) (fun hc => ?_))
      · have h := h.1 hc
        refine bi_Tr 2 (s' := ((if ¬ r38 = 0 then 1107 else 1095), [(6, .int r39), (5, .int r38), (0, .ref 4999), (1, .ref 0), (2, .ref 77), (3, .ref 112), (4, .int y4)], [], st_mm s40)) rfl (bi_Tif (fun hc => ?_) (fun hc => ?_))
        · have h := h.1 hc
          refine bi_Tr 3 (s' := (23, [(4, .int (y4 + (6 : Int32))), (6, .int r39), (5, .int r38), (0, .ref 4999), (1, .ref 0), (2, .ref 77), (3, .ref 112)], [], st_mm s40)) rfl ?_
          exact bi_Tww h rfl rfl ⟨rfl, rfl, rfl, rfl, rfl, trivial⟩
        · have h := h.2 hc
          refine bi_Tr 2 (s' := (1097, [(6, .int r39), (5, .int r38), (0, .ref 4999), (1, .ref 0), (2, .ref 77), (3, .ref 112), (4, .int y4)], [.int (0 : Int32), .ref 112], st_mm s40)) rfl ?_
          obtain ⟨hi, h⟩ := h
          refine bi_Tlal rfl rfl hi ?_
          refine bi_Tr 4 (s' := ((if (lg_cmp (st_gl s40 112 ((0 : Int32)).toNatClampNeg) (r39).toInt64) = 0 then 1107 else 1105), [(6, .int r39), (5, .int r38), (0, .ref 4999), (1, .ref 0), (2, .ref 77), (3, .ref 112), (4, .int y4)], [], st_mm s40)) rfl (bi_Tif (fun hc => ?_) (fun hc => ?_))
          · have h := h.1 hc
            refine bi_Tr 3 (s' := (23, [(4, .int (y4 + (6 : Int32))), (6, .int r39), (5, .int r38), (0, .ref 4999), (1, .ref 0), (2, .ref 77), (3, .ref 112)], [], st_mm s40)) rfl ?_
            exact bi_Tww h rfl rfl ⟨rfl, rfl, rfl, rfl, rfl, trivial⟩
          · have h := h.2 hc
            refine bi_Tr 1 (s' := (1106, [(6, .int r39), (5, .int r38), (0, .ref 4999), (1, .ref 0), (2, .ref 77), (3, .ref 112), (4, .int y4)], [.int (0 : Int32)], st_mm s40)) rfl ?_
            exact bi_Tv rfl rfl (Or.inl ⟨_, _, rfl, h⟩)
      · have h := h.2 hc
        refine bi_Tr 1 (s' := (1089, [(6, .int r39), (5, .int r38), (0, .ref 4999), (1, .ref 0), (2, .ref 77), (3, .ref 112), (4, .int y4)], [.int (0 : Int32)], st_mm s40)) rfl ?_
        exact bi_Tv rfl rfl (Or.inl ⟨_, _, rfl, h⟩)
    have h := h.2 hc
    have hn13 := lv_neT hc (a := 13) rfl
    by_cases hc : ((X.2 (y4).toNatClampNeg) &&& (31 : Int32)) = (14 : Int32)
    · rw [hc] at ht; cases ht
      have h := h.1 hc
      refine bi_Tr 5 (s' := (1116, [(0, .ref 4999), (1, .ref 0), (2, .ref 77), (3, .ref 112), (4, .int y4)], [.int (y4 + (1 : Int32)), .ref 4999, .ref 0], st_mm s)) rfl ?_
      obtain ⟨hi, h⟩ := h
      refine bi_Tsal rfl hi ?_
      refine bi_Tr 4 (s' := (1122, [(0, .ref 4999), (1, .ref 0), (2, .ref 77), (3, .ref 112), (4, .int y4)], [.int (y4 + (2 : Int32)), .ref 4999, .int (X.2 ((y4 + (1 : Int32))).toNatClampNeg), .ref 0], st_mm s)) rfl ?_
      obtain ⟨hi, h⟩ := h
      refine bi_Tsal rfl hi ?_
      refine bi_Tr 4 (s' := (1128, [(0, .ref 4999), (1, .ref 0), (2, .ref 77), (3, .ref 112), (4, .int y4)], [.int (y4 + (3 : Int32)), .ref 4999, .int (X.2 ((y4 + (2 : Int32))).toNatClampNeg), .int (X.2 ((y4 + (1 : Int32))).toNatClampNeg), .ref 0], st_mm s)) rfl ?_
      obtain ⟨hi, h⟩ := h
      refine bi_Tsal rfl hi ?_
      refine bi_Tr 1 (s' := ((if (X.2 ((y4 + (3 : Int32))).toNatClampNeg) = 0 then 1136 else 1132), [(0, .ref 4999), (1, .ref 0), (2, .ref 77), (3, .ref 112), (4, .int y4)], [.int (X.2 ((y4 + (2 : Int32))).toNatClampNeg), .int (X.2 ((y4 + (1 : Int32))).toNatClampNeg), .ref 0], st_mm s)) rfl (bi_Tif (fun hc => ?_) (fun hc => ?_))
      · have h := h.1 hc
        refine bi_Tr 2 (s' := (1138, [(0, .ref 4999), (1, .ref 0), (2, .ref 77), (3, .ref 112), (4, .int y4)], [.ref 112, .int (0 : Int32), .int (X.2 ((y4 + (2 : Int32))).toNatClampNeg), .int (X.2 ((y4 + (1 : Int32))).toNatClampNeg), .ref 0], st_mm s)) rfl ?_
        refine bi_TcI (as := [.ref 0, .int (X.2 ((y4 + (1 : Int32))).toNatClampNeg), .int (X.2 ((y4 + (2 : Int32))).toNatClampNeg), .int (0 : Int32), .ref 112]) rfl rfl ?_
        refine cI.mono h (fun r41 s41 h => ?_) (fun _ _ h => h.elim)
        refine bi_Tr 6 (s' := (1149, [(5, .int r41), (0, .ref 4999), (1, .ref 0), (2, .ref 77), (3, .ref 112), (4, .int y4)], [.int (y4 + (1 : Int32)), .ref 4999, .ref 77], st_mm s41)) rfl ?_
        obtain ⟨hi, h⟩ := h
        refine bi_Tsal rfl hi ?_
        refine bi_Tr 4 (s' := (1155, [(5, .int r41), (0, .ref 4999), (1, .ref 0), (2, .ref 77), (3, .ref 112), (4, .int y4)], [.int (y4 + (2 : Int32)), .ref 4999, .int (X.2 ((y4 + (1 : Int32))).toNatClampNeg), .ref 77], st_mm s41)) rfl ?_
        obtain ⟨hi, h⟩ := h
        refine bi_Tsal rfl hi ?_
        refine bi_Tr 4 (s' := (1161, [(5, .int r41), (0, .ref 4999), (1, .ref 0), (2, .ref 77), (3, .ref 112), (4, .int y4)], [.int (y4 + (3 : Int32)), .ref 4999, .int (X.2 ((y4 + (2 : Int32))).toNatClampNeg), .int (X.2 ((y4 + (1 : Int32))).toNatClampNeg), .ref 77], st_mm s41)) rfl ?_
        obtain ⟨hi, h⟩ := h
        refine bi_Tsal rfl hi ?_
        refine bi_Tr 1 (s' := ((if (X.2 ((y4 + (3 : Int32))).toNatClampNeg) = 0 then 1169 else 1165), [(5, .int r41), (0, .ref 4999), (1, .ref 0), (2, .ref 77), (3, .ref 112), (4, .int y4)], [.int (X.2 ((y4 + (2 : Int32))).toNatClampNeg), .int (X.2 ((y4 + (1 : Int32))).toNatClampNeg), .ref 77], st_mm s41)) rfl (bi_Tif (fun hc => ?_) (fun hc => ?_))
        · have h := h.1 hc
          refine bi_Tr 1 (s' := (1170, [(5, .int r41), (0, .ref 4999), (1, .ref 0), (2, .ref 77), (3, .ref 112), (4, .int y4)], [.int (0 : Int32), .int (X.2 ((y4 + (2 : Int32))).toNatClampNeg), .int (X.2 ((y4 + (1 : Int32))).toNatClampNeg), .ref 77], st_mm s41)) rfl ?_
          refine bi_TcI (as := [.ref 77, .int (X.2 ((y4 + (1 : Int32))).toNatClampNeg), .int (X.2 ((y4 + (2 : Int32))).toNatClampNeg), .int (0 : Int32)]) rfl rfl ?_
          refine cI.mono h (fun r42 s42 h => ?_) (fun _ _ h => h.elim)
          refine bi_Tr 2 (s' := (1176, [(6, .int r42), (5, .int r41), (0, .ref 4999), (1, .ref 0), (2, .ref 77), (3, .ref 112), (4, .int y4)], [.ref 77], st_mm s42)) rfl ?_
          refine bi_TcI (as := [.ref 77]) rfl rfl ?_
          refine cI.mono h (fun r43 s43 h => ?_) (fun _ _ h => h.elim)
          refine bi_Tr 2 (s' := ((if r43 = r41 then 1186 else 1184), [(6, .int r42), (5, .int r41), (0, .ref 4999), (1, .ref 0), (2, .ref 77), (3, .ref 112), (4, .int y4)], [], st_mm s43)) rfl (bi_Tif (fun hc => ?_) (fun hc => ?_))
          · have h := h.1 hc
            refine bi_Tr 2 (s' := ((if ¬ r41 = 0 then 1210 else 1191), [(6, .int r42), (5, .int r41), (0, .ref 4999), (1, .ref 0), (2, .ref 77), (3, .ref 112), (4, .int y4)], [], st_mm s43)) rfl (bi_Tif (fun hc => ?_) (fun hc => ?_))
            · have h := h.1 hc
              refine bi_Tr 3 (s' := (23, [(4, .int (y4 + (6 : Int32))), (6, .int r42), (5, .int r41), (0, .ref 4999), (1, .ref 0), (2, .ref 77), (3, .ref 112)], [], st_mm s43)) rfl ?_
              exact bi_Tww h rfl rfl ⟨rfl, rfl, rfl, rfl, rfl, trivial⟩
            · have h := h.2 hc
              refine bi_Tr 2 (s' := (1193, [(6, .int r42), (5, .int r41), (0, .ref 4999), (1, .ref 0), (2, .ref 77), (3, .ref 112), (4, .int y4)], [.int (0 : Int32), .ref 112], st_mm s43)) rfl ?_
              obtain ⟨hi, h⟩ := h
              refine bi_Tlal rfl rfl hi ?_
              refine bi_Tr 2 (s' := ((if r42 = 0 then 1203 else 1199), [(6, .int r42), (5, .int r41), (0, .ref 4999), (1, .ref 0), (2, .ref 77), (3, .ref 112), (4, .int y4)], [.long (st_gl s43 112 ((0 : Int32)).toNatClampNeg)], st_mm s43)) rfl (bi_Tif (fun hc => ?_) (fun hc => ?_))
              · have h := h.1 hc
                refine bi_Tr 3 (s' := ((if (lg_cmp (st_gl s43 112 ((0 : Int32)).toNatClampNeg) (0 : Int64)) = 0 then 1210 else 1208), [(6, .int r42), (5, .int r41), (0, .ref 4999), (1, .ref 0), (2, .ref 77), (3, .ref 112), (4, .int y4)], [], st_mm s43)) rfl (bi_Tif (fun hc => ?_) (fun hc => ?_))
                · have h := h.1 hc
                  refine bi_Tr 3 (s' := (23, [(4, .int (y4 + (6 : Int32))), (6, .int r42), (5, .int r41), (0, .ref 4999), (1, .ref 0), (2, .ref 77), (3, .ref 112)], [], st_mm s43)) rfl ?_
                  exact bi_Tww h rfl rfl ⟨rfl, rfl, rfl, rfl, rfl, trivial⟩
                · have h := h.2 hc
                  refine bi_Tr 1 (s' := (1209, [(6, .int r42), (5, .int r41), (0, .ref 4999), (1, .ref 0), (2, .ref 77), (3, .ref 112), (4, .int y4)], [.int (0 : Int32)], st_mm s43)) rfl ?_
                  exact bi_Tv rfl rfl (Or.inl ⟨_, _, rfl, h⟩)
              · have h := h.2 hc
                refine bi_Tr 4 (s' := ((if (lg_cmp (st_gl s43 112 ((0 : Int32)).toNatClampNeg) (1 : Int64)) = 0 then 1210 else 1208), [(6, .int r42), (5, .int r41), (0, .ref 4999), (1, .ref 0), (2, .ref 77), (3, .ref 112), (4, .int y4)], [], st_mm s43)) rfl (bi_Tif (fun hc => ?_) (fun hc => ?_))
                · have h := h.1 hc
                  refine bi_Tr 3 (s' := (23, [(4, .int (y4 + (6 : Int32))), (6, .int r42), (5, .int r41), (0, .ref 4999), (1, .ref 0), (2, .ref 77), (3, .ref 112)], [], st_mm s43)) rfl ?_
                  exact bi_Tww h rfl rfl ⟨rfl, rfl, rfl, rfl, rfl, trivial⟩
                · have h := h.2 hc
                  refine bi_Tr 1 (s' := (1209, [(6, .int r42), (5, .int r41), (0, .ref 4999), (1, .ref 0), (2, .ref 77), (3, .ref 112), (4, .int y4)], [.int (0 : Int32)], st_mm s43)) rfl ?_
                  exact bi_Tv rfl rfl (Or.inl ⟨_, _, rfl, h⟩)
          · have h := h.2 hc
            refine bi_Tr 1 (s' := (1185, [(6, .int r42), (5, .int r41), (0, .ref 4999), (1, .ref 0), (2, .ref 77), (3, .ref 112), (4, .int y4)], [.int (0 : Int32)], st_mm s43)) rfl ?_
            exact bi_Tv rfl rfl (Or.inl ⟨_, _, rfl, h⟩)
        · have h := h.2 hc
          refine bi_Tr 2 (s' := (1170, [(5, .int r41), (0, .ref 4999), (1, .ref 0), (2, .ref 77), (3, .ref 112), (4, .int y4)], [.int (1 : Int32), .int (X.2 ((y4 + (2 : Int32))).toNatClampNeg), .int (X.2 ((y4 + (1 : Int32))).toNatClampNeg), .ref 77], st_mm s41)) rfl ?_
          refine bi_TcI (as := [.ref 77, .int (X.2 ((y4 + (1 : Int32))).toNatClampNeg), .int (X.2 ((y4 + (2 : Int32))).toNatClampNeg), .int (1 : Int32)]) rfl rfl ?_
          refine cI.mono h (fun r44 s44 h => ?_) (fun _ _ h => h.elim)
          refine bi_Tr 2 (s' := (1176, [(6, .int r44), (5, .int r41), (0, .ref 4999), (1, .ref 0), (2, .ref 77), (3, .ref 112), (4, .int y4)], [.ref 77], st_mm s44)) rfl ?_
          refine bi_TcI (as := [.ref 77]) rfl rfl ?_
          refine cI.mono h (fun r45 s45 h => ?_) (fun _ _ h => h.elim)
          refine bi_Tr 2 (s' := ((if r45 = r41 then 1186 else 1184), [(6, .int r44), (5, .int r41), (0, .ref 4999), (1, .ref 0), (2, .ref 77), (3, .ref 112), (4, .int y4)], [], st_mm s45)) rfl (bi_Tif (fun hc => ?_) (fun hc => ?_))
          · have h := h.1 hc
            refine bi_Tr 2 (s' := ((if ¬ r41 = 0 then 1210 else 1191), [(6, .int r44), (5, .int r41), (0, .ref 4999), (1, .ref 0), (2, .ref 77), (3, .ref 112), (4, .int y4)], [], st_mm s45)) rfl (bi_Tif (fun hc => ?_) (fun hc => ?_))
            · have h := h.1 hc
              refine bi_Tr 3 (s' := (23, [(4, .int (y4 + (6 : Int32))), (6, .int r44), (5, .int r41), (0, .ref 4999), (1, .ref 0), (2, .ref 77), (3, .ref 112)], [], st_mm s45)) rfl ?_
              exact bi_Tww h rfl rfl ⟨rfl, rfl, rfl, rfl, rfl, trivial⟩
            · have h := h.2 hc
              refine bi_Tr 2 (s' := (1193, [(6, .int r44), (5, .int r41), (0, .ref 4999), (1, .ref 0), (2, .ref 77), (3, .ref 112), (4, .int y4)], [.int (0 : Int32), .ref 112], st_mm s45)) rfl ?_
              obtain ⟨hi, h⟩ := h
              refine bi_Tlal rfl rfl hi ?_
              refine bi_Tr 2 (s' := ((if r44 = 0 then 1203 else 1199), [(6, .int r44), (5, .int r41), (0, .ref 4999), (1, .ref 0), (2, .ref 77), (3, .ref 112), (4, .int y4)], [.long (st_gl s45 112 ((0 : Int32)).toNatClampNeg)], st_mm s45)) rfl (bi_Tif (fun hc => ?_) (fun hc => ?_))
              · have h := h.1 hc
                refine bi_Tr 3 (s' := ((if (lg_cmp (st_gl s45 112 ((0 : Int32)).toNatClampNeg) (0 : Int64)) = 0 then 1210 else 1208), [(6, .int r44), (5, .int r41), (0, .ref 4999), (1, .ref 0), (2, .ref 77), (3, .ref 112), (4, .int y4)], [], st_mm s45)) rfl (bi_Tif (fun hc => ?_) (fun hc => ?_))
                · have h := h.1 hc
                  refine bi_Tr 3 (s' := (23, [(4, .int (y4 + (6 : Int32))), (6, .int r44), (5, .int r41), (0, .ref 4999), (1, .ref 0), (2, .ref 77), (3, .ref 112)], [], st_mm s45)) rfl ?_
                  exact bi_Tww h rfl rfl ⟨rfl, rfl, rfl, rfl, rfl, trivial⟩
                · have h := h.2 hc
                  refine bi_Tr 1 (s' := (1209, [(6, .int r44), (5, .int r41), (0, .ref 4999), (1, .ref 0), (2, .ref 77), (3, .ref 112), (4, .int y4)], [.int (0 : Int32)], st_mm s45)) rfl ?_
                  exact bi_Tv rfl rfl (Or.inl ⟨_, _, rfl, h⟩)
              · have h := h.2 hc
                refine bi_Tr 4 (s' := ((if (lg_cmp (st_gl s45 112 ((0 : Int32)).toNatClampNeg) (1 : Int64)) = 0 then 1210 else 1208), [(6, .int r44), (5, .int r41), (0, .ref 4999), (1, .ref 0), (2, .ref 77), (3, .ref 112), (4, .int y4)], [], st_mm s45)) rfl (bi_Tif (fun hc => ?_) (fun hc => ?_))
                · have h := h.1 hc
                  refine bi_Tr 3 (s' := (23, [(4, .int (y4 + (6 : Int32))), (6, .int r44), (5, .int r41), (0, .ref 4999), (1, .ref 0), (2, .ref 77), (3, .ref 112)], [], st_mm s45)) rfl ?_
                  exact bi_Tww h rfl rfl ⟨rfl, rfl, rfl, rfl, rfl, trivial⟩
                · have h := h.2 hc
                  refine bi_Tr 1 (s' := (1209, [(6, .int r44), (5, .int r41), (0, .ref 4999), (1, .ref 0), (2, .ref 77), (3, .ref 112), (4, .int y4)], [.int (0 : Int32)], st_mm s45)) rfl ?_
                  exact bi_Tv rfl rfl (Or.inl ⟨_, _, rfl, h⟩)
          · have h := h.2 hc
            refine bi_Tr 1 (s' := (1185, [(6, .int r44), (5, .int r41), (0, .ref 4999), (1, .ref 0), (2, .ref 77), (3, .ref 112), (4, .int y4)], [.int (0 : Int32)], st_mm s45)) rfl ?_
            exact bi_Tv rfl rfl (Or.inl ⟨_, _, rfl, h⟩)
      · have h := h.2 hc
        refine bi_Tr 3 (s' := (1138, [(0, .ref 4999), (1, .ref 0), (2, .ref 77), (3, .ref 112), (4, .int y4)], [.ref 112, .int (1 : Int32), .int (X.2 ((y4 + (2 : Int32))).toNatClampNeg), .int (X.2 ((y4 + (1 : Int32))).toNatClampNeg), .ref 0], st_mm s)) rfl ?_
        refine bi_TcI (as := [.ref 0, .int (X.2 ((y4 + (1 : Int32))).toNatClampNeg), .int (X.2 ((y4 + (2 : Int32))).toNatClampNeg), .int (1 : Int32), .ref 112]) rfl rfl ?_
        refine cI.mono h (fun r46 s46 h => ?_) (fun _ _ h => h.elim)
        refine bi_Tr 6 (s' := (1149, [(5, .int r46), (0, .ref 4999), (1, .ref 0), (2, .ref 77), (3, .ref 112), (4, .int y4)], [.int (y4 + (1 : Int32)), .ref 4999, .ref 77], st_mm s46)) rfl ?_
        obtain ⟨hi, h⟩ := h
        refine bi_Tsal rfl hi ?_
        refine bi_Tr 4 (s' := (1155, [(5, .int r46), (0, .ref 4999), (1, .ref 0), (2, .ref 77), (3, .ref 112), (4, .int y4)], [.int (y4 + (2 : Int32)), .ref 4999, .int (X.2 ((y4 + (1 : Int32))).toNatClampNeg), .ref 77], st_mm s46)) rfl ?_
        obtain ⟨hi, h⟩ := h
        refine bi_Tsal rfl hi ?_
        refine bi_Tr 4 (s' := (1161, [(5, .int r46), (0, .ref 4999), (1, .ref 0), (2, .ref 77), (3, .ref 112), (4, .int y4)], [.int (y4 + (3 : Int32)), .ref 4999, .int (X.2 ((y4 + (2 : Int32))).toNatClampNeg), .int (X.2 ((y4 + (1 : Int32))).toNatClampNeg), .ref 77], st_mm s46)) rfl ?_
        obtain ⟨hi, h⟩ := h
        refine bi_Tsal rfl hi ?_
        refine bi_Tr 1 (s' := ((if (X.2 ((y4 + (3 : Int32))).toNatClampNeg) = 0 then 1169 else 1165), [(5, .int r46), (0, .ref 4999), (1, .ref 0), (2, .ref 77), (3, .ref 112), (4, .int y4)], [.int (X.2 ((y4 + (2 : Int32))).toNatClampNeg), .int (X.2 ((y4 + (1 : Int32))).toNatClampNeg), .ref 77], st_mm s46)) rfl (bi_Tif (fun hc => ?_) (fun hc => ?_))
        · have h := h.1 hc
          refine bi_Tr 1 (s' := (1170, [(5, .int r46), (0, .ref 4999), (1, .ref 0), (2, .ref 77), (3, .ref 112), (4, .int y4)], [.int (0 : Int32), .int (X.2 ((y4 + (2 : Int32))).toNatClampNeg), .int (X.2 ((y4 + (1 : Int32))).toNatClampNeg), .ref 77], st_mm s46)) rfl ?_
          refine bi_TcI (as := [.ref 77, .int (X.2 ((y4 + (1 : Int32))).toNatClampNeg), .int (X.2 ((y4 + (2 : Int32))).toNatClampNeg), .int (0 : Int32)]) rfl rfl ?_
          refine cI.mono h (fun r47 s47 h => ?_) (fun _ _ h => h.elim)
          refine bi_Tr 2 (s' := (1176, [(6, .int r47), (5, .int r46), (0, .ref 4999), (1, .ref 0), (2, .ref 77), (3, .ref 112), (4, .int y4)], [.ref 77], st_mm s47)) rfl ?_
          refine bi_TcI (as := [.ref 77]) rfl rfl ?_
          refine cI.mono h (fun r48 s48 h => ?_) (fun _ _ h => h.elim)
          refine bi_Tr 2 (s' := ((if r48 = r46 then 1186 else 1184), [(6, .int r47), (5, .int r46), (0, .ref 4999), (1, .ref 0), (2, .ref 77), (3, .ref 112), (4, .int y4)], [], st_mm s48)) rfl (bi_Tif (fun hc => ?_) (fun hc => ?_))
          · have h := h.1 hc
            refine bi_Tr 2 (s' := ((if ¬ r46 = 0 then 1210 else 1191), [(6, .int r47), (5, .int r46), (0, .ref 4999), (1, .ref 0), (2, .ref 77), (3, .ref 112), (4, .int y4)], [], st_mm s48)) rfl (bi_Tif (fun hc => ?_) (fun hc => ?_))
            · have h := h.1 hc
              refine bi_Tr 3 (s' := (23, [(4, .int (y4 + (6 : Int32))), (6, .int r47), (5, .int r46), (0, .ref 4999), (1, .ref 0), (2, .ref 77), (3, .ref 112)], [], st_mm s48)) rfl ?_
              exact bi_Tww h rfl rfl ⟨rfl, rfl, rfl, rfl, rfl, trivial⟩
            · have h := h.2 hc
              refine bi_Tr 2 (s' := (1193, [(6, .int r47), (5, .int r46), (0, .ref 4999), (1, .ref 0), (2, .ref 77), (3, .ref 112), (4, .int y4)], [.int (0 : Int32), .ref 112], st_mm s48)) rfl ?_
              obtain ⟨hi, h⟩ := h
              refine bi_Tlal rfl rfl hi ?_
              refine bi_Tr 2 (s' := ((if r47 = 0 then 1203 else 1199), [(6, .int r47), (5, .int r46), (0, .ref 4999), (1, .ref 0), (2, .ref 77), (3, .ref 112), (4, .int y4)], [.long (st_gl s48 112 ((0 : Int32)).toNatClampNeg)], st_mm s48)) rfl (bi_Tif (fun hc => ?_) (fun hc => ?_))
              · have h := h.1 hc
                refine bi_Tr 3 (s' := ((if (lg_cmp (st_gl s48 112 ((0 : Int32)).toNatClampNeg) (0 : Int64)) = 0 then 1210 else 1208), [(6, .int r47), (5, .int r46), (0, .ref 4999), (1, .ref 0), (2, .ref 77), (3, .ref 112), (4, .int y4)], [], st_mm s48)) rfl (bi_Tif (fun hc => ?_) (fun hc => ?_))
                · have h := h.1 hc
                  refine bi_Tr 3 (s' := (23, [(4, .int (y4 + (6 : Int32))), (6, .int r47), (5, .int r46), (0, .ref 4999), (1, .ref 0), (2, .ref 77), (3, .ref 112)], [], st_mm s48)) rfl ?_
                  exact bi_Tww h rfl rfl ⟨rfl, rfl, rfl, rfl, rfl, trivial⟩
                · have h := h.2 hc
                  refine bi_Tr 1 (s' := (1209, [(6, .int r47), (5, .int r46), (0, .ref 4999), (1, .ref 0), (2, .ref 77), (3, .ref 112), (4, .int y4)], [.int (0 : Int32)], st_mm s48)) rfl ?_
                  exact bi_Tv rfl rfl (Or.inl ⟨_, _, rfl, h⟩)
              · have h := h.2 hc
                refine bi_Tr 4 (s' := ((if (lg_cmp (st_gl s48 112 ((0 : Int32)).toNatClampNeg) (1 : Int64)) = 0 then 1210 else 1208), [(6, .int r47), (5, .int r46), (0, .ref 4999), (1, .ref 0), (2, .ref 77), (3, .ref 112), (4, .int y4)], [], st_mm s48)) rfl (bi_Tif (fun hc => ?_) (fun hc => ?_))
                · have h := h.1 hc
                  refine bi_Tr 3 (s' := (23, [(4, .int (y4 + (6 : Int32))), (6, .int r47), (5, .int r46), (0, .ref 4999), (1, .ref 0), (2, .ref 77), (3, .ref 112)], [], st_mm s48)) rfl ?_
                  exact bi_Tww h rfl rfl ⟨rfl, rfl, rfl, rfl, rfl, trivial⟩
                · have h := h.2 hc
                  refine bi_Tr 1 (s' := (1209, [(6, .int r47), (5, .int r46), (0, .ref 4999), (1, .ref 0), (2, .ref 77), (3, .ref 112), (4, .int y4)], [.int (0 : Int32)], st_mm s48)) rfl ?_
                  exact bi_Tv rfl rfl (Or.inl ⟨_, _, rfl, h⟩)
          · have h := h.2 hc
            refine bi_Tr 1 (s' := (1185, [(6, .int r47), (5, .int r46), (0, .ref 4999), (1, .ref 0), (2, .ref 77), (3, .ref 112), (4, .int y4)], [.int (0 : Int32)], st_mm s48)) rfl ?_
            exact bi_Tv rfl rfl (Or.inl ⟨_, _, rfl, h⟩)
        · have h := h.2 hc
          refine bi_Tr 2 (s' := (1170, [(5, .int r46), (0, .ref 4999), (1, .ref 0), (2, .ref 77), (3, .ref 112), (4, .int y4)], [.int (1 : Int32), .int (X.2 ((y4 + (2 : Int32))).toNatClampNeg), .int (X.2 ((y4 + (1 : Int32))).toNatClampNeg), .ref 77], st_mm s46)) rfl ?_
          refine bi_TcI (as := [.ref 77, .int (X.2 ((y4 + (1 : Int32))).toNatClampNeg), .int (X.2 ((y4 + (2 : Int32))).toNatClampNeg), .int (1 : Int32)]) rfl rfl ?_
          refine cI.mono h (fun r49 s49 h => ?_) (fun _ _ h => h.elim)
          refine bi_Tr 2 (s' := (1176, [(6, .int r49), (5, .int r46), (0, .ref 4999), (1, .ref 0), (2, .ref 77), (3, .ref 112), (4, .int y4)], [.ref 77], st_mm s49)) rfl ?_
          refine bi_TcI (as := [.ref 77]) rfl rfl ?_
          refine cI.mono h (fun r50 s50 h => ?_) (fun _ _ h => h.elim)
          refine bi_Tr 2 (s' := ((if r50 = r46 then 1186 else 1184), [(6, .int r49), (5, .int r46), (0, .ref 4999), (1, .ref 0), (2, .ref 77), (3, .ref 112), (4, .int y4)], [], st_mm s50)) rfl (bi_Tif (fun hc => ?_) (fun hc => ?_))
          · have h := h.1 hc
            refine bi_Tr 2 (s' := ((if ¬ r46 = 0 then 1210 else 1191), [(6, .int r49), (5, .int r46), (0, .ref 4999), (1, .ref 0), (2, .ref 77), (3, .ref 112), (4, .int y4)], [], st_mm s50)) rfl (bi_Tif (fun hc => ?_) (fun hc => ?_))
            · have h := h.1 hc
              refine bi_Tr 3 (s' := (23, [(4, .int (y4 + (6 : Int32))), (6, .int r49), (5, .int r46), (0, .ref 4999), (1, .ref 0), (2, .ref 77), (3, .ref 112)], [], st_mm s50)) rfl ?_
              exact bi_Tww h rfl rfl ⟨rfl, rfl, rfl, rfl, rfl, trivial⟩
            · have h := h.2 hc
              refine bi_Tr 2 (s' := (1193, [(6, .int r49), (5, .int r46), (0, .ref 4999), (1, .ref 0), (2, .ref 77), (3, .ref 112), (4, .int y4)], [.int (0 : Int32), .ref 112], st_mm s50)) rfl ?_
              obtain ⟨hi, h⟩ := h
              refine bi_Tlal rfl rfl hi ?_
              refine bi_Tr 2 (s' := ((if r49 = 0 then 1203 else 1199), [(6, .int r49), (5, .int r46), (0, .ref 4999), (1, .ref 0), (2, .ref 77), (3, .ref 112), (4, .int y4)], [.long (st_gl s50 112 ((0 : Int32)).toNatClampNeg)], st_mm s50)) rfl (bi_Tif (fun hc => ?_) (fun hc => ?_))
              · have h := h.1 hc
                refine bi_Tr 3 (s' := ((if (lg_cmp (st_gl s50 112 ((0 : Int32)).toNatClampNeg) (0 : Int64)) = 0 then 1210 else 1208), [(6, .int r49), (5, .int r46), (0, .ref 4999), (1, .ref 0), (2, .ref 77), (3, .ref 112), (4, .int y4)], [], st_mm s50)) rfl (bi_Tif (fun hc => ?_) (fun hc => ?_))
                · have h := h.1 hc
                  refine bi_Tr 3 (s' := (23, [(4, .int (y4 + (6 : Int32))), (6, .int r49), (5, .int r46), (0, .ref 4999), (1, .ref 0), (2, .ref 77), (3, .ref 112)], [], st_mm s50)) rfl ?_
                  exact bi_Tww h rfl rfl ⟨rfl, rfl, rfl, rfl, rfl, trivial⟩
                · have h := h.2 hc
                  refine bi_Tr 1 (s' := (1209, [(6, .int r49), (5, .int r46), (0, .ref 4999), (1, .ref 0), (2, .ref 77), (3, .ref 112), (4, .int y4)], [.int (0 : Int32)], st_mm s50)) rfl ?_
                  exact bi_Tv rfl rfl (Or.inl ⟨_, _, rfl, h⟩)
              · have h := h.2 hc
                refine bi_Tr 4 (s' := ((if (lg_cmp (st_gl s50 112 ((0 : Int32)).toNatClampNeg) (1 : Int64)) = 0 then 1210 else 1208), [(6, .int r49), (5, .int r46), (0, .ref 4999), (1, .ref 0), (2, .ref 77), (3, .ref 112), (4, .int y4)], [], st_mm s50)) rfl (bi_Tif (fun hc => ?_) (fun hc => ?_))
                · have h := h.1 hc
                  refine bi_Tr 3 (s' := (23, [(4, .int (y4 + (6 : Int32))), (6, .int r49), (5, .int r46), (0, .ref 4999), (1, .ref 0), (2, .ref 77), (3, .ref 112)], [], st_mm s50)) rfl ?_
                  exact bi_Tww h rfl rfl ⟨rfl, rfl, rfl, rfl, rfl, trivial⟩
                · have h := h.2 hc
                  refine bi_Tr 1 (s' := (1209, [(6, .int r49), (5, .int r46), (0, .ref 4999), (1, .ref 0), (2, .ref 77), (3, .ref 112), (4, .int y4)], [.int (0 : Int32)], st_mm s50)) rfl ?_
                  exact bi_Tv rfl rfl (Or.inl ⟨_, _, rfl, h⟩)
          · have h := h.2 hc
            refine bi_Tr 1 (s' := (1185, [(6, .int r49), (5, .int r46), (0, .ref 4999), (1, .ref 0), (2, .ref 77), (3, .ref 112), (4, .int y4)], [.int (0 : Int32)], st_mm s50)) rfl ?_
            exact bi_Tv rfl rfl (Or.inl ⟨_, _, rfl, h⟩)
    have h := h.2 hc
    have hn14 := lv_neT hc (a := 14) rfl
    by_cases hc : ((X.2 (y4).toNatClampNeg) &&& (31 : Int32)) = (15 : Int32)
    · rw [hc] at ht; cases ht
      have h := h.1 hc
      refine bi_Tr 5 (s' := (1219, [(0, .ref 4999), (1, .ref 0), (2, .ref 77), (3, .ref 112), (4, .int y4)], [.int (y4 + (1 : Int32)), .ref 4999, .ref 0], st_mm s)) rfl ?_
      obtain ⟨hi, h⟩ := h
      refine bi_Tsal rfl hi ?_
      refine bi_Tr 4 (s' := (1225, [(0, .ref 4999), (1, .ref 0), (2, .ref 77), (3, .ref 112), (4, .int y4)], [.int (y4 + (2 : Int32)), .ref 4999, .int (X.2 ((y4 + (1 : Int32))).toNatClampNeg), .ref 0], st_mm s)) rfl ?_
      obtain ⟨hi, h⟩ := h
      refine bi_Tsal rfl hi ?_
      refine bi_Tr 1 (s' := ((if (X.2 ((y4 + (2 : Int32))).toNatClampNeg) = 0 then 1233 else 1229), [(0, .ref 4999), (1, .ref 0), (2, .ref 77), (3, .ref 112), (4, .int y4)], [.int (X.2 ((y4 + (1 : Int32))).toNatClampNeg), .ref 0], st_mm s)) rfl (bi_Tif (fun hc => ?_) (fun hc => ?_))
      · have h := h.1 hc
        refine bi_Tr 2 (s' := (1235, [(0, .ref 4999), (1, .ref 0), (2, .ref 77), (3, .ref 112), (4, .int y4)], [.ref 112, .int (0 : Int32), .int (X.2 ((y4 + (1 : Int32))).toNatClampNeg), .ref 0], st_mm s)) rfl ?_
        refine bi_TcI (as := [.ref 0, .int (X.2 ((y4 + (1 : Int32))).toNatClampNeg), .int (0 : Int32), .ref 112]) rfl rfl ?_
        refine cI.mono h (fun r51 s51 h => ?_) (fun _ _ h => h.elim)
        refine bi_Tr 6 (s' := (1246, [(5, .int r51), (0, .ref 4999), (1, .ref 0), (2, .ref 77), (3, .ref 112), (4, .int y4)], [.int (y4 + (1 : Int32)), .ref 4999, .ref 77], st_mm s51)) rfl ?_
        obtain ⟨hi, h⟩ := h
        refine bi_Tsal rfl hi ?_
        refine bi_Tr 4 (s' := (1252, [(5, .int r51), (0, .ref 4999), (1, .ref 0), (2, .ref 77), (3, .ref 112), (4, .int y4)], [.int (y4 + (2 : Int32)), .ref 4999, .int (X.2 ((y4 + (1 : Int32))).toNatClampNeg), .ref 77], st_mm s51)) rfl ?_
        obtain ⟨hi, h⟩ := h
        refine bi_Tsal rfl hi ?_
        refine bi_Tr 1 (s' := ((if (X.2 ((y4 + (2 : Int32))).toNatClampNeg) = 0 then 1260 else 1256), [(5, .int r51), (0, .ref 4999), (1, .ref 0), (2, .ref 77), (3, .ref 112), (4, .int y4)], [.int (X.2 ((y4 + (1 : Int32))).toNatClampNeg), .ref 77], st_mm s51)) rfl (bi_Tif (fun hc => ?_) (fun hc => ?_))
        · have h := h.1 hc
          refine bi_Tr 1 (s' := (1261, [(5, .int r51), (0, .ref 4999), (1, .ref 0), (2, .ref 77), (3, .ref 112), (4, .int y4)], [.int (0 : Int32), .int (X.2 ((y4 + (1 : Int32))).toNatClampNeg), .ref 77], st_mm s51)) rfl ?_
          refine bi_TcI (as := [.ref 77, .int (X.2 ((y4 + (1 : Int32))).toNatClampNeg), .int (0 : Int32)]) rfl rfl ?_
          refine cI.mono h (fun r52 s52 h => ?_) (fun _ _ h => h.elim)
          refine bi_Tr 2 (s' := (1267, [(6, .int r52), (5, .int r51), (0, .ref 4999), (1, .ref 0), (2, .ref 77), (3, .ref 112), (4, .int y4)], [.ref 77], st_mm s52)) rfl ?_
          refine bi_TcI (as := [.ref 77]) rfl rfl ?_
          refine cI.mono h (fun r53 s53 h => ?_) (fun _ _ h => h.elim)
          refine bi_Tr 2 (s' := ((if r53 = r51 then 1277 else 1275), [(6, .int r52), (5, .int r51), (0, .ref 4999), (1, .ref 0), (2, .ref 77), (3, .ref 112), (4, .int y4)], [], st_mm s53)) rfl (bi_Tif (fun hc => ?_) (fun hc => ?_))
          · have h := h.1 hc
            refine bi_Tr 2 (s' := ((if ¬ r51 = 0 then 1301 else 1282), [(6, .int r52), (5, .int r51), (0, .ref 4999), (1, .ref 0), (2, .ref 77), (3, .ref 112), (4, .int y4)], [], st_mm s53)) rfl (bi_Tif (fun hc => ?_) (fun hc => ?_))
            · have h := h.1 hc
              refine bi_Tr 3 (s' := (23, [(4, .int (y4 + (6 : Int32))), (6, .int r52), (5, .int r51), (0, .ref 4999), (1, .ref 0), (2, .ref 77), (3, .ref 112)], [], st_mm s53)) rfl ?_
              exact bi_Tww h rfl rfl ⟨rfl, rfl, rfl, rfl, rfl, trivial⟩
            · have h := h.2 hc
              refine bi_Tr 2 (s' := (1284, [(6, .int r52), (5, .int r51), (0, .ref 4999), (1, .ref 0), (2, .ref 77), (3, .ref 112), (4, .int y4)], [.int (0 : Int32), .ref 112], st_mm s53)) rfl ?_
              obtain ⟨hi, h⟩ := h
              refine bi_Tlal rfl rfl hi ?_
              refine bi_Tr 2 (s' := ((if r52 = 0 then 1294 else 1290), [(6, .int r52), (5, .int r51), (0, .ref 4999), (1, .ref 0), (2, .ref 77), (3, .ref 112), (4, .int y4)], [.long (st_gl s53 112 ((0 : Int32)).toNatClampNeg)], st_mm s53)) rfl (bi_Tif (fun hc => ?_) (fun hc => ?_))
              · have h := h.1 hc
                refine bi_Tr 3 (s' := ((if (lg_cmp (st_gl s53 112 ((0 : Int32)).toNatClampNeg) (0 : Int64)) = 0 then 1301 else 1299), [(6, .int r52), (5, .int r51), (0, .ref 4999), (1, .ref 0), (2, .ref 77), (3, .ref 112), (4, .int y4)], [], st_mm s53)) rfl (bi_Tif (fun hc => ?_) (fun hc => ?_))
                · have h := h.1 hc
                  refine bi_Tr 3 (s' := (23, [(4, .int (y4 + (6 : Int32))), (6, .int r52), (5, .int r51), (0, .ref 4999), (1, .ref 0), (2, .ref 77), (3, .ref 112)], [], st_mm s53)) rfl ?_
                  exact bi_Tww h rfl rfl ⟨rfl, rfl, rfl, rfl, rfl, trivial⟩
                · have h := h.2 hc
                  refine bi_Tr 1 (s' := (1300, [(6, .int r52), (5, .int r51), (0, .ref 4999), (1, .ref 0), (2, .ref 77), (3, .ref 112), (4, .int y4)], [.int (0 : Int32)], st_mm s53)) rfl ?_
                  exact bi_Tv rfl rfl (Or.inl ⟨_, _, rfl, h⟩)
              · have h := h.2 hc
                refine bi_Tr 4 (s' := ((if (lg_cmp (st_gl s53 112 ((0 : Int32)).toNatClampNeg) (1 : Int64)) = 0 then 1301 else 1299), [(6, .int r52), (5, .int r51), (0, .ref 4999), (1, .ref 0), (2, .ref 77), (3, .ref 112), (4, .int y4)], [], st_mm s53)) rfl (bi_Tif (fun hc => ?_) (fun hc => ?_))
                · have h := h.1 hc
                  refine bi_Tr 3 (s' := (23, [(4, .int (y4 + (6 : Int32))), (6, .int r52), (5, .int r51), (0, .ref 4999), (1, .ref 0), (2, .ref 77), (3, .ref 112)], [], st_mm s53)) rfl ?_
                  exact bi_Tww h rfl rfl ⟨rfl, rfl, rfl, rfl, rfl, trivial⟩
                · have h := h.2 hc
                  refine bi_Tr 1 (s' := (1300, [(6, .int r52), (5, .int r51), (0, .ref 4999), (1, .ref 0), (2, .ref 77), (3, .ref 112), (4, .int y4)], [.int (0 : Int32)], st_mm s53)) rfl ?_
                  exact bi_Tv rfl rfl (Or.inl ⟨_, _, rfl, h⟩)
          · have h := h.2 hc
            refine bi_Tr 1 (s' := (1276, [(6, .int r52), (5, .int r51), (0, .ref 4999), (1, .ref 0), (2, .ref 77), (3, .ref 112), (4, .int y4)], [.int (0 : Int32)], st_mm s53)) rfl ?_
            exact bi_Tv rfl rfl (Or.inl ⟨_, _, rfl, h⟩)
        · have h := h.2 hc
          refine bi_Tr 2 (s' := (1261, [(5, .int r51), (0, .ref 4999), (1, .ref 0), (2, .ref 77), (3, .ref 112), (4, .int y4)], [.int (1 : Int32), .int (X.2 ((y4 + (1 : Int32))).toNatClampNeg), .ref 77], st_mm s51)) rfl ?_
          refine bi_TcI (as := [.ref 77, .int (X.2 ((y4 + (1 : Int32))).toNatClampNeg), .int (1 : Int32)]) rfl rfl ?_
          refine cI.mono h (fun r54 s54 h => ?_) (fun _ _ h => h.elim)
          refine bi_Tr 2 (s' := (1267, [(6, .int r54), (5, .int r51), (0, .ref 4999), (1, .ref 0), (2, .ref 77), (3, .ref 112), (4, .int y4)], [.ref 77], st_mm s54)) rfl ?_
          refine bi_TcI (as := [.ref 77]) rfl rfl ?_
          refine cI.mono h (fun r55 s55 h => ?_) (fun _ _ h => h.elim)
          refine bi_Tr 2 (s' := ((if r55 = r51 then 1277 else 1275), [(6, .int r54), (5, .int r51), (0, .ref 4999), (1, .ref 0), (2, .ref 77), (3, .ref 112), (4, .int y4)], [], st_mm s55)) rfl (bi_Tif (fun hc => ?_) (fun hc => ?_))
          · have h := h.1 hc
            refine bi_Tr 2 (s' := ((if ¬ r51 = 0 then 1301 else 1282), [(6, .int r54), (5, .int r51), (0, .ref 4999), (1, .ref 0), (2, .ref 77), (3, .ref 112), (4, .int y4)], [], st_mm s55)) rfl (bi_Tif (fun hc => ?_) (fun hc => ?_))
            · have h := h.1 hc
              refine bi_Tr 3 (s' := (23, [(4, .int (y4 + (6 : Int32))), (6, .int r54), (5, .int r51), (0, .ref 4999), (1, .ref 0), (2, .ref 77), (3, .ref 112)], [], st_mm s55)) rfl ?_
              exact bi_Tww h rfl rfl ⟨rfl, rfl, rfl, rfl, rfl, trivial⟩
            · have h := h.2 hc
              refine bi_Tr 2 (s' := (1284, [(6, .int r54), (5, .int r51), (0, .ref 4999), (1, .ref 0), (2, .ref 77), (3, .ref 112), (4, .int y4)], [.int (0 : Int32), .ref 112], st_mm s55)) rfl ?_
              obtain ⟨hi, h⟩ := h
              refine bi_Tlal rfl rfl hi ?_
              refine bi_Tr 2 (s' := ((if r54 = 0 then 1294 else 1290), [(6, .int r54), (5, .int r51), (0, .ref 4999), (1, .ref 0), (2, .ref 77), (3, .ref 112), (4, .int y4)], [.long (st_gl s55 112 ((0 : Int32)).toNatClampNeg)], st_mm s55)) rfl (bi_Tif (fun hc => ?_) (fun hc => ?_))
              · have h := h.1 hc
                refine bi_Tr 3 (s' := ((if (lg_cmp (st_gl s55 112 ((0 : Int32)).toNatClampNeg) (0 : Int64)) = 0 then 1301 else 1299), [(6, .int r54), (5, .int r51), (0, .ref 4999), (1, .ref 0), (2, .ref 77), (3, .ref 112), (4, .int y4)], [], st_mm s55)) rfl (bi_Tif (fun hc => ?_) (fun hc => ?_))
                · have h := h.1 hc
                  refine bi_Tr 3 (s' := (23, [(4, .int (y4 + (6 : Int32))), (6, .int r54), (5, .int r51), (0, .ref 4999), (1, .ref 0), (2, .ref 77), (3, .ref 112)], [], st_mm s55)) rfl ?_
                  exact bi_Tww h rfl rfl ⟨rfl, rfl, rfl, rfl, rfl, trivial⟩
                · have h := h.2 hc
                  refine bi_Tr 1 (s' := (1300, [(6, .int r54), (5, .int r51), (0, .ref 4999), (1, .ref 0), (2, .ref 77), (3, .ref 112), (4, .int y4)], [.int (0 : Int32)], st_mm s55)) rfl ?_
                  exact bi_Tv rfl rfl (Or.inl ⟨_, _, rfl, h⟩)
              · have h := h.2 hc
                refine bi_Tr 4 (s' := ((if (lg_cmp (st_gl s55 112 ((0 : Int32)).toNatClampNeg) (1 : Int64)) = 0 then 1301 else 1299), [(6, .int r54), (5, .int r51), (0, .ref 4999), (1, .ref 0), (2, .ref 77), (3, .ref 112), (4, .int y4)], [], st_mm s55)) rfl (bi_Tif (fun hc => ?_) (fun hc => ?_))
                · have h := h.1 hc
                  refine bi_Tr 3 (s' := (23, [(4, .int (y4 + (6 : Int32))), (6, .int r54), (5, .int r51), (0, .ref 4999), (1, .ref 0), (2, .ref 77), (3, .ref 112)], [], st_mm s55)) rfl ?_
                  exact bi_Tww h rfl rfl ⟨rfl, rfl, rfl, rfl, rfl, trivial⟩
                · have h := h.2 hc
                  refine bi_Tr 1 (s' := (1300, [(6, .int r54), (5, .int r51), (0, .ref 4999), (1, .ref 0), (2, .ref 77), (3, .ref 112), (4, .int y4)], [.int (0 : Int32)], st_mm s55)) rfl ?_
                  exact bi_Tv rfl rfl (Or.inl ⟨_, _, rfl, h⟩)
          · have h := h.2 hc
            refine bi_Tr 1 (s' := (1276, [(6, .int r54), (5, .int r51), (0, .ref 4999), (1, .ref 0), (2, .ref 77), (3, .ref 112), (4, .int y4)], [.int (0 : Int32)], st_mm s55)) rfl ?_
            exact bi_Tv rfl rfl (Or.inl ⟨_, _, rfl, h⟩)
      · have h := h.2 hc
        refine bi_Tr 3 (s' := (1235, [(0, .ref 4999), (1, .ref 0), (2, .ref 77), (3, .ref 112), (4, .int y4)], [.ref 112, .int (1 : Int32), .int (X.2 ((y4 + (1 : Int32))).toNatClampNeg), .ref 0], st_mm s)) rfl ?_
        refine bi_TcI (as := [.ref 0, .int (X.2 ((y4 + (1 : Int32))).toNatClampNeg), .int (1 : Int32), .ref 112]) rfl rfl ?_
        refine cI.mono h (fun r56 s56 h => ?_) (fun _ _ h => h.elim)
        refine bi_Tr 6 (s' := (1246, [(5, .int r56), (0, .ref 4999), (1, .ref 0), (2, .ref 77), (3, .ref 112), (4, .int y4)], [.int (y4 + (1 : Int32)), .ref 4999, .ref 77], st_mm s56)) rfl ?_
        obtain ⟨hi, h⟩ := h
        refine bi_Tsal rfl hi ?_
        refine bi_Tr 4 (s' := (1252, [(5, .int r56), (0, .ref 4999), (1, .ref 0), (2, .ref 77), (3, .ref 112), (4, .int y4)], [.int (y4 + (2 : Int32)), .ref 4999, .int (X.2 ((y4 + (1 : Int32))).toNatClampNeg), .ref 77], st_mm s56)) rfl ?_
        obtain ⟨hi, h⟩ := h
        refine bi_Tsal rfl hi ?_
        refine bi_Tr 1 (s' := ((if (X.2 ((y4 + (2 : Int32))).toNatClampNeg) = 0 then 1260 else 1256), [(5, .int r56), (0, .ref 4999), (1, .ref 0), (2, .ref 77), (3, .ref 112), (4, .int y4)], [.int (X.2 ((y4 + (1 : Int32))).toNatClampNeg), .ref 77], st_mm s56)) rfl (bi_Tif (fun hc => ?_) (fun hc => ?_))
        · have h := h.1 hc
          refine bi_Tr 1 (s' := (1261, [(5, .int r56), (0, .ref 4999), (1, .ref 0), (2, .ref 77), (3, .ref 112), (4, .int y4)], [.int (0 : Int32), .int (X.2 ((y4 + (1 : Int32))).toNatClampNeg), .ref 77], st_mm s56)) rfl ?_
          refine bi_TcI (as := [.ref 77, .int (X.2 ((y4 + (1 : Int32))).toNatClampNeg), .int (0 : Int32)]) rfl rfl ?_
          refine cI.mono h (fun r57 s57 h => ?_) (fun _ _ h => h.elim)
          refine bi_Tr 2 (s' := (1267, [(6, .int r57), (5, .int r56), (0, .ref 4999), (1, .ref 0), (2, .ref 77), (3, .ref 112), (4, .int y4)], [.ref 77], st_mm s57)) rfl ?_
          refine bi_TcI (as := [.ref 77]) rfl rfl ?_
          refine cI.mono h (fun r58 s58 h => ?_) (fun _ _ h => h.elim)
          refine bi_Tr 2 (s' := ((if r58 = r56 then 1277 else 1275), [(6, .int r57), (5, .int r56), (0, .ref 4999), (1, .ref 0), (2, .ref 77), (3, .ref 112), (4, .int y4)], [], st_mm s58)) rfl (bi_Tif (fun hc => ?_) (fun hc => ?_))
          · have h := h.1 hc
            refine bi_Tr 2 (s' := ((if ¬ r56 = 0 then 1301 else 1282), [(6, .int r57), (5, .int r56), (0, .ref 4999), (1, .ref 0), (2, .ref 77), (3, .ref 112), (4, .int y4)], [], st_mm s58)) rfl (bi_Tif (fun hc => ?_) (fun hc => ?_))
            · have h := h.1 hc
              refine bi_Tr 3 (s' := (23, [(4, .int (y4 + (6 : Int32))), (6, .int r57), (5, .int r56), (0, .ref 4999), (1, .ref 0), (2, .ref 77), (3, .ref 112)], [], st_mm s58)) rfl ?_
              exact bi_Tww h rfl rfl ⟨rfl, rfl, rfl, rfl, rfl, trivial⟩
            · have h := h.2 hc
              refine bi_Tr 2 (s' := (1284, [(6, .int r57), (5, .int r56), (0, .ref 4999), (1, .ref 0), (2, .ref 77), (3, .ref 112), (4, .int y4)], [.int (0 : Int32), .ref 112], st_mm s58)) rfl ?_
              obtain ⟨hi, h⟩ := h
              refine bi_Tlal rfl rfl hi ?_
              refine bi_Tr 2 (s' := ((if r57 = 0 then 1294 else 1290), [(6, .int r57), (5, .int r56), (0, .ref 4999), (1, .ref 0), (2, .ref 77), (3, .ref 112), (4, .int y4)], [.long (st_gl s58 112 ((0 : Int32)).toNatClampNeg)], st_mm s58)) rfl (bi_Tif (fun hc => ?_) (fun hc => ?_))
              · have h := h.1 hc
                refine bi_Tr 3 (s' := ((if (lg_cmp (st_gl s58 112 ((0 : Int32)).toNatClampNeg) (0 : Int64)) = 0 then 1301 else 1299), [(6, .int r57), (5, .int r56), (0, .ref 4999), (1, .ref 0), (2, .ref 77), (3, .ref 112), (4, .int y4)], [], st_mm s58)) rfl (bi_Tif (fun hc => ?_) (fun hc => ?_))
                · have h := h.1 hc
                  refine bi_Tr 3 (s' := (23, [(4, .int (y4 + (6 : Int32))), (6, .int r57), (5, .int r56), (0, .ref 4999), (1, .ref 0), (2, .ref 77), (3, .ref 112)], [], st_mm s58)) rfl ?_
                  exact bi_Tww h rfl rfl ⟨rfl, rfl, rfl, rfl, rfl, trivial⟩
                · have h := h.2 hc
                  refine bi_Tr 1 (s' := (1300, [(6, .int r57), (5, .int r56), (0, .ref 4999), (1, .ref 0), (2, .ref 77), (3, .ref 112), (4, .int y4)], [.int (0 : Int32)], st_mm s58)) rfl ?_
                  exact bi_Tv rfl rfl (Or.inl ⟨_, _, rfl, h⟩)
              · have h := h.2 hc
                refine bi_Tr 4 (s' := ((if (lg_cmp (st_gl s58 112 ((0 : Int32)).toNatClampNeg) (1 : Int64)) = 0 then 1301 else 1299), [(6, .int r57), (5, .int r56), (0, .ref 4999), (1, .ref 0), (2, .ref 77), (3, .ref 112), (4, .int y4)], [], st_mm s58)) rfl (bi_Tif (fun hc => ?_) (fun hc => ?_))
                · have h := h.1 hc
                  refine bi_Tr 3 (s' := (23, [(4, .int (y4 + (6 : Int32))), (6, .int r57), (5, .int r56), (0, .ref 4999), (1, .ref 0), (2, .ref 77), (3, .ref 112)], [], st_mm s58)) rfl ?_
                  exact bi_Tww h rfl rfl ⟨rfl, rfl, rfl, rfl, rfl, trivial⟩
                · have h := h.2 hc
                  refine bi_Tr 1 (s' := (1300, [(6, .int r57), (5, .int r56), (0, .ref 4999), (1, .ref 0), (2, .ref 77), (3, .ref 112), (4, .int y4)], [.int (0 : Int32)], st_mm s58)) rfl ?_
                  exact bi_Tv rfl rfl (Or.inl ⟨_, _, rfl, h⟩)
          · have h := h.2 hc
            refine bi_Tr 1 (s' := (1276, [(6, .int r57), (5, .int r56), (0, .ref 4999), (1, .ref 0), (2, .ref 77), (3, .ref 112), (4, .int y4)], [.int (0 : Int32)], st_mm s58)) rfl ?_
            exact bi_Tv rfl rfl (Or.inl ⟨_, _, rfl, h⟩)
        · have h := h.2 hc
          refine bi_Tr 2 (s' := (1261, [(5, .int r56), (0, .ref 4999), (1, .ref 0), (2, .ref 77), (3, .ref 112), (4, .int y4)], [.int (1 : Int32), .int (X.2 ((y4 + (1 : Int32))).toNatClampNeg), .ref 77], st_mm s56)) rfl ?_
          refine bi_TcI (as := [.ref 77, .int (X.2 ((y4 + (1 : Int32))).toNatClampNeg), .int (1 : Int32)]) rfl rfl ?_
          refine cI.mono h (fun r59 s59 h => ?_) (fun _ _ h => h.elim)
          refine bi_Tr 2 (s' := (1267, [(6, .int r59), (5, .int r56), (0, .ref 4999), (1, .ref 0), (2, .ref 77), (3, .ref 112), (4, .int y4)], [.ref 77], st_mm s59)) rfl ?_
          refine bi_TcI (as := [.ref 77]) rfl rfl ?_
          refine cI.mono h (fun r60 s60 h => ?_) (fun _ _ h => h.elim)
          refine bi_Tr 2 (s' := ((if r60 = r56 then 1277 else 1275), [(6, .int r59), (5, .int r56), (0, .ref 4999), (1, .ref 0), (2, .ref 77), (3, .ref 112), (4, .int y4)], [], st_mm s60)) rfl (bi_Tif (fun hc => ?_) (fun hc => ?_))
          · have h := h.1 hc
            refine bi_Tr 2 (s' := ((if ¬ r56 = 0 then 1301 else 1282), [(6, .int r59), (5, .int r56), (0, .ref 4999), (1, .ref 0), (2, .ref 77), (3, .ref 112), (4, .int y4)], [], st_mm s60)) rfl (bi_Tif (fun hc => ?_) (fun hc => ?_))
            · have h := h.1 hc
              refine bi_Tr 3 (s' := (23, [(4, .int (y4 + (6 : Int32))), (6, .int r59), (5, .int r56), (0, .ref 4999), (1, .ref 0), (2, .ref 77), (3, .ref 112)], [], st_mm s60)) rfl ?_
              exact bi_Tww h rfl rfl ⟨rfl, rfl, rfl, rfl, rfl, trivial⟩
            · have h := h.2 hc
              refine bi_Tr 2 (s' := (1284, [(6, .int r59), (5, .int r56), (0, .ref 4999), (1, .ref 0), (2, .ref 77), (3, .ref 112), (4, .int y4)], [.int (0 : Int32), .ref 112], st_mm s60)) rfl ?_
              obtain ⟨hi, h⟩ := h
              refine bi_Tlal rfl rfl hi ?_
              refine bi_Tr 2 (s' := ((if r59 = 0 then 1294 else 1290), [(6, .int r59), (5, .int r56), (0, .ref 4999), (1, .ref 0), (2, .ref 77), (3, .ref 112), (4, .int y4)], [.long (st_gl s60 112 ((0 : Int32)).toNatClampNeg)], st_mm s60)) rfl (bi_Tif (fun hc => ?_) (fun hc => ?_))
              · have h := h.1 hc
                refine bi_Tr 3 (s' := ((if (lg_cmp (st_gl s60 112 ((0 : Int32)).toNatClampNeg) (0 : Int64)) = 0 then 1301 else 1299), [(6, .int r59), (5, .int r56), (0, .ref 4999), (1, .ref 0), (2, .ref 77), (3, .ref 112), (4, .int y4)], [], st_mm s60)) rfl (bi_Tif (fun hc => ?_) (fun hc => ?_))
                · have h := h.1 hc
                  refine bi_Tr 3 (s' := (23, [(4, .int (y4 + (6 : Int32))), (6, .int r59), (5, .int r56), (0, .ref 4999), (1, .ref 0), (2, .ref 77), (3, .ref 112)], [], st_mm s60)) rfl ?_
                  exact bi_Tww h rfl rfl ⟨rfl, rfl, rfl, rfl, rfl, trivial⟩
                · have h := h.2 hc
                  refine bi_Tr 1 (s' := (1300, [(6, .int r59), (5, .int r56), (0, .ref 4999), (1, .ref 0), (2, .ref 77), (3, .ref 112), (4, .int y4)], [.int (0 : Int32)], st_mm s60)) rfl ?_
                  exact bi_Tv rfl rfl (Or.inl ⟨_, _, rfl, h⟩)
              · have h := h.2 hc
                refine bi_Tr 4 (s' := ((if (lg_cmp (st_gl s60 112 ((0 : Int32)).toNatClampNeg) (1 : Int64)) = 0 then 1301 else 1299), [(6, .int r59), (5, .int r56), (0, .ref 4999), (1, .ref 0), (2, .ref 77), (3, .ref 112), (4, .int y4)], [], st_mm s60)) rfl (bi_Tif (fun hc => ?_) (fun hc => ?_))
                · have h := h.1 hc
                  refine bi_Tr 3 (s' := (23, [(4, .int (y4 + (6 : Int32))), (6, .int r59), (5, .int r56), (0, .ref 4999), (1, .ref 0), (2, .ref 77), (3, .ref 112)], [], st_mm s60)) rfl ?_
                  exact bi_Tww h rfl rfl ⟨rfl, rfl, rfl, rfl, rfl, trivial⟩
                · have h := h.2 hc
                  refine bi_Tr 1 (s' := (1300, [(6, .int r59), (5, .int r56), (0, .ref 4999), (1, .ref 0), (2, .ref 77), (3, .ref 112), (4, .int y4)], [.int (0 : Int32)], st_mm s60)) rfl ?_
                  exact bi_Tv rfl rfl (Or.inl ⟨_, _, rfl, h⟩)
          · have h := h.2 hc
            refine bi_Tr 1 (s' := (1276, [(6, .int r59), (5, .int r56), (0, .ref 4999), (1, .ref 0), (2, .ref 77), (3, .ref 112), (4, .int y4)], [.int (0 : Int32)], st_mm s60)) rfl ?_
            exact bi_Tv rfl rfl (Or.inl ⟨_, _, rfl, h⟩)
    have h := h.2 hc
    have hn15 := lv_neT hc (a := 15) rfl
    by_cases hc : ((X.2 (y4).toNatClampNeg) &&& (31 : Int32)) = (16 : Int32)
    · rw [hc] at ht; cases ht
      have h := h.1 hc
      refine bi_Tr 1 (s' := (1305, [(0, .ref 4999), (1, .ref 0), (2, .ref 77), (3, .ref 112), (4, .int y4)], [.ref 0], st_mm s)) rfl ?_
      refine bi_TcI (as := [.ref 0]) rfl rfl ?_
      refine cI.mono h (fun r61 s61 h => ?_) (fun _ _ h => h.elim)
      refine bi_Tr 1 (s' := (1309, [(0, .ref 4999), (1, .ref 0), (2, .ref 77), (3, .ref 112), (4, .int y4)], [.ref 77, .int r61], st_mm s61)) rfl ?_
      refine bi_TcI (as := [.ref 77]) rfl rfl ?_
      refine cI.mono h (fun r62 s62 h => ?_) (fun _ _ h => h.elim)
      refine bi_Tr 1 (s' := ((if r61 = r62 then 1992 else 1315), [(0, .ref 4999), (1, .ref 0), (2, .ref 77), (3, .ref 112), (4, .int y4)], [], st_mm s62)) rfl (bi_Tif (fun hc => ?_) (fun hc => ?_))
      · have h := h.1 hc
        refine bi_Tr 2 (s' := (23, [(4, .int (y4 + (6 : Int32))), (0, .ref 4999), (1, .ref 0), (2, .ref 77), (3, .ref 112)], [], st_mm s62)) rfl ?_
        exact bi_Tww h rfl rfl ⟨rfl, rfl, rfl, rfl, rfl, trivial⟩
      · have h := h.2 hc
        refine bi_Tr 1 (s' := (1316, [(0, .ref 4999), (1, .ref 0), (2, .ref 77), (3, .ref 112), (4, .int y4)], [.int (0 : Int32)], st_mm s62)) rfl ?_
        exact bi_Tv rfl rfl (Or.inl ⟨_, _, rfl, h⟩)
    have h := h.2 hc
    have hn16 := lv_neT hc (a := 16) rfl
    by_cases hc : ((X.2 (y4).toNatClampNeg) &&& (31 : Int32)) = (17 : Int32)
    · rw [hc] at ht; cases ht
      have h := h.1 hc
      refine bi_Tr 5 (s' := (1323, [(0, .ref 4999), (1, .ref 0), (2, .ref 77), (3, .ref 112), (4, .int y4)], [.int (y4 + (1 : Int32)), .ref 4999, .ref 0], st_mm s)) rfl ?_
      obtain ⟨hi, h⟩ := h
      refine bi_Tsal rfl hi ?_
      refine bi_Tr 1 (s' := (1325, [(0, .ref 4999), (1, .ref 0), (2, .ref 77), (3, .ref 112), (4, .int y4)], [.ref 112, .int (X.2 ((y4 + (1 : Int32))).toNatClampNeg), .ref 0], st_mm s)) rfl ?_
      refine bi_TcI (as := [.ref 0, .int (X.2 ((y4 + (1 : Int32))).toNatClampNeg), .ref 112]) rfl rfl ?_
      refine cI.mono h (fun r63 s63 h => ?_) (fun _ _ h => h.elim)
      refine bi_Tr 6 (s' := (1336, [(5, .int r63), (0, .ref 4999), (1, .ref 0), (2, .ref 77), (3, .ref 112), (4, .int y4)], [.int (y4 + (1 : Int32)), .ref 4999, .ref 77], st_mm s63)) rfl ?_
      obtain ⟨hi, h⟩ := h
      refine bi_Tsal rfl hi ?_
      refine bi_TcI (as := [.ref 77, .int (X.2 ((y4 + (1 : Int32))).toNatClampNeg)]) rfl rfl ?_
      refine cI.mono h (fun r64 s64 h => ?_) (fun _ _ h => h.elim)
      refine bi_Tr 2 (s' := (1343, [(6, .int r64), (5, .int r63), (0, .ref 4999), (1, .ref 0), (2, .ref 77), (3, .ref 112), (4, .int y4)], [.ref 77], st_mm s64)) rfl ?_
      refine bi_TcI (as := [.ref 77]) rfl rfl ?_
      refine cI.mono h (fun r65 s65 h => ?_) (fun _ _ h => h.elim)
      refine bi_Tr 2 (s' := ((if r65 = r63 then 1353 else 1351), [(6, .int r64), (5, .int r63), (0, .ref 4999), (1, .ref 0), (2, .ref 77), (3, .ref 112), (4, .int y4)], [], st_mm s65)) rfl (bi_Tif (fun hc => ?_) (fun hc => ?_))
      · have h := h.1 hc
        refine bi_Tr 2 (s' := ((if ¬ r63 = 0 then 1370 else 1358), [(6, .int r64), (5, .int r63), (0, .ref 4999), (1, .ref 0), (2, .ref 77), (3, .ref 112), (4, .int y4)], [], st_mm s65)) rfl (bi_Tif (fun hc => ?_) (fun hc => ?_))
        · have h := h.1 hc
          refine bi_Tr 3 (s' := (23, [(4, .int (y4 + (6 : Int32))), (6, .int r64), (5, .int r63), (0, .ref 4999), (1, .ref 0), (2, .ref 77), (3, .ref 112)], [], st_mm s65)) rfl ?_
          exact bi_Tww h rfl rfl ⟨rfl, rfl, rfl, rfl, rfl, trivial⟩
        · have h := h.2 hc
          refine bi_Tr 2 (s' := (1360, [(6, .int r64), (5, .int r63), (0, .ref 4999), (1, .ref 0), (2, .ref 77), (3, .ref 112), (4, .int y4)], [.int (0 : Int32), .ref 112], st_mm s65)) rfl ?_
          obtain ⟨hi, h⟩ := h
          refine bi_Tlal rfl rfl hi ?_
          refine bi_Tr 4 (s' := ((if (lg_cmp (st_gl s65 112 ((0 : Int32)).toNatClampNeg) (r64).toInt64) = 0 then 1370 else 1368), [(6, .int r64), (5, .int r63), (0, .ref 4999), (1, .ref 0), (2, .ref 77), (3, .ref 112), (4, .int y4)], [], st_mm s65)) rfl (bi_Tif (fun hc => ?_) (fun hc => ?_))
          · have h := h.1 hc
            refine bi_Tr 3 (s' := (23, [(4, .int (y4 + (6 : Int32))), (6, .int r64), (5, .int r63), (0, .ref 4999), (1, .ref 0), (2, .ref 77), (3, .ref 112)], [], st_mm s65)) rfl ?_
            exact bi_Tww h rfl rfl ⟨rfl, rfl, rfl, rfl, rfl, trivial⟩
          · have h := h.2 hc
            refine bi_Tr 1 (s' := (1369, [(6, .int r64), (5, .int r63), (0, .ref 4999), (1, .ref 0), (2, .ref 77), (3, .ref 112), (4, .int y4)], [.int (0 : Int32)], st_mm s65)) rfl ?_
            exact bi_Tv rfl rfl (Or.inl ⟨_, _, rfl, h⟩)
      · have h := h.2 hc
        refine bi_Tr 1 (s' := (1352, [(6, .int r64), (5, .int r63), (0, .ref 4999), (1, .ref 0), (2, .ref 77), (3, .ref 112), (4, .int y4)], [.int (0 : Int32)], st_mm s65)) rfl ?_
        exact bi_Tv rfl rfl (Or.inl ⟨_, _, rfl, h⟩)
    have h := h.2 hc
    have hn17 := lv_neT hc (a := 17) rfl
    by_cases hc : ((X.2 (y4).toNatClampNeg) &&& (31 : Int32)) = (18 : Int32)
    · rw [hc] at ht; cases ht
      have h := h.1 hc
      refine bi_Tr 5 (s' := (1379, [(0, .ref 4999), (1, .ref 0), (2, .ref 77), (3, .ref 112), (4, .int y4)], [.int (y4 + (1 : Int32)), .ref 4999, .ref 0], st_mm s)) rfl ?_
      obtain ⟨hi, h⟩ := h
      refine bi_Tsal rfl hi ?_
      refine bi_Tr 4 (s' := (1385, [(0, .ref 4999), (1, .ref 0), (2, .ref 77), (3, .ref 112), (4, .int y4)], [.int (y4 + (2 : Int32)), .ref 4999, .int (X.2 ((y4 + (1 : Int32))).toNatClampNeg), .ref 0], st_mm s)) rfl ?_
      obtain ⟨hi, h⟩ := h
      refine bi_Tsal rfl hi ?_
      refine bi_Tr 1 (s' := (1387, [(0, .ref 4999), (1, .ref 0), (2, .ref 77), (3, .ref 112), (4, .int y4)], [.ref 112, .int (X.2 ((y4 + (2 : Int32))).toNatClampNeg), .int (X.2 ((y4 + (1 : Int32))).toNatClampNeg), .ref 0], st_mm s)) rfl ?_
      refine bi_TcI (as := [.ref 0, .int (X.2 ((y4 + (1 : Int32))).toNatClampNeg), .int (X.2 ((y4 + (2 : Int32))).toNatClampNeg), .ref 112]) rfl rfl ?_
      refine cI.mono h (fun r66 s66 h => ?_) (fun _ _ h => h.elim)
      refine bi_Tr 6 (s' := (1398, [(5, .int r66), (0, .ref 4999), (1, .ref 0), (2, .ref 77), (3, .ref 112), (4, .int y4)], [.int (y4 + (1 : Int32)), .ref 4999, .ref 77], st_mm s66)) rfl ?_
      obtain ⟨hi, h⟩ := h
      refine bi_Tsal rfl hi ?_
      refine bi_Tr 4 (s' := (1404, [(5, .int r66), (0, .ref 4999), (1, .ref 0), (2, .ref 77), (3, .ref 112), (4, .int y4)], [.int (y4 + (2 : Int32)), .ref 4999, .int (X.2 ((y4 + (1 : Int32))).toNatClampNeg), .ref 77], st_mm s66)) rfl ?_
      obtain ⟨hi, h⟩ := h
      refine bi_Tsal rfl hi ?_
      refine bi_TcI (as := [.ref 77, .int (X.2 ((y4 + (1 : Int32))).toNatClampNeg), .int (X.2 ((y4 + (2 : Int32))).toNatClampNeg)]) rfl rfl ?_
      refine cI.mono h (fun r67 s67 h => ?_) (fun _ _ h => h.elim)
      refine bi_Tr 2 (s' := (1411, [(6, .int r67), (5, .int r66), (0, .ref 4999), (1, .ref 0), (2, .ref 77), (3, .ref 112), (4, .int y4)], [.ref 77], st_mm s67)) rfl ?_
      refine bi_TcI (as := [.ref 77]) rfl rfl ?_
      refine cI.mono h (fun r68 s68 h => ?_) (fun _ _ h => h.elim)
      refine bi_Tr 2 (s' := ((if r68 = r66 then 1421 else 1419), [(6, .int r67), (5, .int r66), (0, .ref 4999), (1, .ref 0), (2, .ref 77), (3, .ref 112), (4, .int y4)], [], st_mm s68)) rfl (bi_Tif (fun hc => ?_) (fun hc => ?_))
      · have h := h.1 hc
        refine bi_Tr 2 (s' := ((if ¬ r66 = 0 then 1438 else 1426), [(6, .int r67), (5, .int r66), (0, .ref 4999), (1, .ref 0), (2, .ref 77), (3, .ref 112), (4, .int y4)], [], st_mm s68)) rfl (bi_Tif (fun hc => ?_) (fun hc => ?_))
        · have h := h.1 hc
          refine bi_Tr 3 (s' := (23, [(4, .int (y4 + (6 : Int32))), (6, .int r67), (5, .int r66), (0, .ref 4999), (1, .ref 0), (2, .ref 77), (3, .ref 112)], [], st_mm s68)) rfl ?_
          exact bi_Tww h rfl rfl ⟨rfl, rfl, rfl, rfl, rfl, trivial⟩
        · have h := h.2 hc
          refine bi_Tr 2 (s' := (1428, [(6, .int r67), (5, .int r66), (0, .ref 4999), (1, .ref 0), (2, .ref 77), (3, .ref 112), (4, .int y4)], [.int (0 : Int32), .ref 112], st_mm s68)) rfl ?_
          obtain ⟨hi, h⟩ := h
          refine bi_Tlal rfl rfl hi ?_
          refine bi_Tr 4 (s' := ((if (lg_cmp (st_gl s68 112 ((0 : Int32)).toNatClampNeg) (r67).toInt64) = 0 then 1438 else 1436), [(6, .int r67), (5, .int r66), (0, .ref 4999), (1, .ref 0), (2, .ref 77), (3, .ref 112), (4, .int y4)], [], st_mm s68)) rfl (bi_Tif (fun hc => ?_) (fun hc => ?_))
          · have h := h.1 hc
            refine bi_Tr 3 (s' := (23, [(4, .int (y4 + (6 : Int32))), (6, .int r67), (5, .int r66), (0, .ref 4999), (1, .ref 0), (2, .ref 77), (3, .ref 112)], [], st_mm s68)) rfl ?_
            exact bi_Tww h rfl rfl ⟨rfl, rfl, rfl, rfl, rfl, trivial⟩
          · have h := h.2 hc
            refine bi_Tr 1 (s' := (1437, [(6, .int r67), (5, .int r66), (0, .ref 4999), (1, .ref 0), (2, .ref 77), (3, .ref 112), (4, .int y4)], [.int (0 : Int32)], st_mm s68)) rfl ?_
            exact bi_Tv rfl rfl (Or.inl ⟨_, _, rfl, h⟩)
      · have h := h.2 hc
        refine bi_Tr 1 (s' := (1420, [(6, .int r67), (5, .int r66), (0, .ref 4999), (1, .ref 0), (2, .ref 77), (3, .ref 112), (4, .int y4)], [.int (0 : Int32)], st_mm s68)) rfl ?_
        exact bi_Tv rfl rfl (Or.inl ⟨_, _, rfl, h⟩)
    have h := h.2 hc
    have hn18 := lv_neT hc (a := 18) rfl
    by_cases hc : ((X.2 (y4).toNatClampNeg) &&& (31 : Int32)) = (19 : Int32)
    · rw [hc] at ht; cases ht
      have h := h.1 hc
      refine bi_Tr 5 (s' := (1447, [(0, .ref 4999), (1, .ref 0), (2, .ref 77), (3, .ref 112), (4, .int y4)], [.int (y4 + (1 : Int32)), .ref 4999, .ref 0], st_mm s)) rfl ?_
      obtain ⟨hi, h⟩ := h
      refine bi_Tsal rfl hi ?_
      refine bi_Tr 4 (s' := (1453, [(0, .ref 4999), (1, .ref 0), (2, .ref 77), (3, .ref 112), (4, .int y4)], [.int (y4 + (2 : Int32)), .ref 4999, .int (X.2 ((y4 + (1 : Int32))).toNatClampNeg), .ref 0], st_mm s)) rfl ?_
      obtain ⟨hi, h⟩ := h
      refine bi_Tsal rfl hi ?_
      refine bi_Tr 1 (s' := (1455, [(0, .ref 4999), (1, .ref 0), (2, .ref 77), (3, .ref 112), (4, .int y4)], [.ref 112, .int (X.2 ((y4 + (2 : Int32))).toNatClampNeg), .int (X.2 ((y4 + (1 : Int32))).toNatClampNeg), .ref 0], st_mm s)) rfl ?_
      refine bi_TcI (as := [.ref 0, .int (X.2 ((y4 + (1 : Int32))).toNatClampNeg), .int (X.2 ((y4 + (2 : Int32))).toNatClampNeg), .ref 112]) rfl rfl ?_
      refine cI.mono h (fun r69 s69 h => ?_) (fun _ _ h => h.elim)
      refine bi_Tr 6 (s' := (1466, [(5, .int r69), (0, .ref 4999), (1, .ref 0), (2, .ref 77), (3, .ref 112), (4, .int y4)], [.int (y4 + (1 : Int32)), .ref 4999, .ref 77], st_mm s69)) rfl ?_
      obtain ⟨hi, h⟩ := h
      refine bi_Tsal rfl hi ?_
      refine bi_Tr 4 (s' := (1472, [(5, .int r69), (0, .ref 4999), (1, .ref 0), (2, .ref 77), (3, .ref 112), (4, .int y4)], [.int (y4 + (2 : Int32)), .ref 4999, .int (X.2 ((y4 + (1 : Int32))).toNatClampNeg), .ref 77], st_mm s69)) rfl ?_
      obtain ⟨hi, h⟩ := h
      refine bi_Tsal rfl hi ?_
      refine bi_TcI (as := [.ref 77, .int (X.2 ((y4 + (1 : Int32))).toNatClampNeg), .int (X.2 ((y4 + (2 : Int32))).toNatClampNeg)]) rfl rfl ?_
      refine cI.mono h (fun r70 s70 h => ?_) (fun _ _ h => h.elim)
      refine bi_Tr 2 (s' := (1479, [(6, .int r70), (5, .int r69), (0, .ref 4999), (1, .ref 0), (2, .ref 77), (3, .ref 112), (4, .int y4)], [.ref 77], st_mm s70)) rfl ?_
      refine bi_TcI (as := [.ref 77]) rfl rfl ?_
      refine cI.mono h (fun r71 s71 h => ?_) (fun _ _ h => h.elim)
      refine bi_Tr 2 (s' := ((if r71 = r69 then 1489 else 1487), [(6, .int r70), (5, .int r69), (0, .ref 4999), (1, .ref 0), (2, .ref 77), (3, .ref 112), (4, .int y4)], [], st_mm s71)) rfl (bi_Tif (fun hc => ?_) (fun hc => ?_))
      · have h := h.1 hc
        refine bi_Tr 2 (s' := ((if ¬ r69 = 0 then 1506 else 1494), [(6, .int r70), (5, .int r69), (0, .ref 4999), (1, .ref 0), (2, .ref 77), (3, .ref 112), (4, .int y4)], [], st_mm s71)) rfl (bi_Tif (fun hc => ?_) (fun hc => ?_))
        · have h := h.1 hc
          refine bi_Tr 3 (s' := (23, [(4, .int (y4 + (6 : Int32))), (6, .int r70), (5, .int r69), (0, .ref 4999), (1, .ref 0), (2, .ref 77), (3, .ref 112)], [], st_mm s71)) rfl ?_
          exact bi_Tww h rfl rfl ⟨rfl, rfl, rfl, rfl, rfl, trivial⟩
        · have h := h.2 hc
          refine bi_Tr 2 (s' := (1496, [(6, .int r70), (5, .int r69), (0, .ref 4999), (1, .ref 0), (2, .ref 77), (3, .ref 112), (4, .int y4)], [.int (0 : Int32), .ref 112], st_mm s71)) rfl ?_
          obtain ⟨hi, h⟩ := h
          refine bi_Tlal rfl rfl hi ?_
          refine bi_Tr 4 (s' := ((if (lg_cmp (st_gl s71 112 ((0 : Int32)).toNatClampNeg) (r70).toInt64) = 0 then 1506 else 1504), [(6, .int r70), (5, .int r69), (0, .ref 4999), (1, .ref 0), (2, .ref 77), (3, .ref 112), (4, .int y4)], [], st_mm s71)) rfl (bi_Tif (fun hc => ?_) (fun hc => ?_))
          · have h := h.1 hc
            refine bi_Tr 3 (s' := (23, [(4, .int (y4 + (6 : Int32))), (6, .int r70), (5, .int r69), (0, .ref 4999), (1, .ref 0), (2, .ref 77), (3, .ref 112)], [], st_mm s71)) rfl ?_
            exact bi_Tww h rfl rfl ⟨rfl, rfl, rfl, rfl, rfl, trivial⟩
          · have h := h.2 hc
            refine bi_Tr 1 (s' := (1505, [(6, .int r70), (5, .int r69), (0, .ref 4999), (1, .ref 0), (2, .ref 77), (3, .ref 112), (4, .int y4)], [.int (0 : Int32)], st_mm s71)) rfl ?_
            exact bi_Tv rfl rfl (Or.inl ⟨_, _, rfl, h⟩)
      · have h := h.2 hc
        refine bi_Tr 1 (s' := (1488, [(6, .int r70), (5, .int r69), (0, .ref 4999), (1, .ref 0), (2, .ref 77), (3, .ref 112), (4, .int y4)], [.int (0 : Int32)], st_mm s71)) rfl ?_
        exact bi_Tv rfl rfl (Or.inl ⟨_, _, rfl, h⟩)
    have h := h.2 hc
    have hn19 := lv_neT hc (a := 19) rfl
    by_cases hc : ((X.2 (y4).toNatClampNeg) &&& (31 : Int32)) = (20 : Int32)
    · rw [hc] at ht; cases ht
      have h := h.1 hc
      refine bi_Tr 5 (s' := (1515, [(0, .ref 4999), (1, .ref 0), (2, .ref 77), (3, .ref 112), (4, .int y4)], [.int (y4 + (1 : Int32)), .ref 4999, .ref 0], st_mm s)) rfl ?_
      obtain ⟨hi, h⟩ := h
      refine bi_Tsal rfl hi ?_
      refine bi_Tr 4 (s' := (1521, [(0, .ref 4999), (1, .ref 0), (2, .ref 77), (3, .ref 112), (4, .int y4)], [.int (y4 + (2 : Int32)), .ref 4999, .int (X.2 ((y4 + (1 : Int32))).toNatClampNeg), .ref 0], st_mm s)) rfl ?_
      obtain ⟨hi, h⟩ := h
      refine bi_Tsal rfl hi ?_
      refine bi_Tr 4 (s' := (1527, [(0, .ref 4999), (1, .ref 0), (2, .ref 77), (3, .ref 112), (4, .int y4)], [.int (y4 + (3 : Int32)), .ref 4999, .int (X.2 ((y4 + (2 : Int32))).toNatClampNeg), .int (X.2 ((y4 + (1 : Int32))).toNatClampNeg), .ref 0], st_mm s)) rfl ?_
      obtain ⟨hi, h⟩ := h
      refine bi_Tsal rfl hi ?_
      refine bi_Tr 1 (s' := (1529, [(0, .ref 4999), (1, .ref 0), (2, .ref 77), (3, .ref 112), (4, .int y4)], [.ref 112, .int (X.2 ((y4 + (3 : Int32))).toNatClampNeg), .int (X.2 ((y4 + (2 : Int32))).toNatClampNeg), .int (X.2 ((y4 + (1 : Int32))).toNatClampNeg), .ref 0], st_mm s)) rfl ?_
      refine bi_TcI (as := [.ref 0, .int (X.2 ((y4 + (1 : Int32))).toNatClampNeg), .int (X.2 ((y4 + (2 : Int32))).toNatClampNeg), .int (X.2 ((y4 + (3 : Int32))).toNatClampNeg), .ref 112]) rfl rfl ?_
      refine cI.mono h (fun r72 s72 h => ?_) (fun _ _ h => h.elim)
      refine bi_Tr 6 (s' := (1540, [(5, .int r72), (0, .ref 4999), (1, .ref 0), (2, .ref 77), (3, .ref 112), (4, .int y4)], [.int (y4 + (1 : Int32)), .ref 4999, .ref 77], st_mm s72)) rfl ?_
      obtain ⟨hi, h⟩ := h
      refine bi_Tsal rfl hi ?_
      refine bi_Tr 4 (s' := (1546, [(5, .int r72), (0, .ref 4999), (1, .ref 0), (2, .ref 77), (3, .ref 112), (4, .int y4)], [.int (y4 + (2 : Int32)), .ref 4999, .int (X.2 ((y4 + (1 : Int32))).toNatClampNeg), .ref 77], st_mm s72)) rfl ?_
      obtain ⟨hi, h⟩ := h
      refine bi_Tsal rfl hi ?_
      refine bi_Tr 4 (s' := (1552, [(5, .int r72), (0, .ref 4999), (1, .ref 0), (2, .ref 77), (3, .ref 112), (4, .int y4)], [.int (y4 + (3 : Int32)), .ref 4999, .int (X.2 ((y4 + (2 : Int32))).toNatClampNeg), .int (X.2 ((y4 + (1 : Int32))).toNatClampNeg), .ref 77], st_mm s72)) rfl ?_
      obtain ⟨hi, h⟩ := h
      refine bi_Tsal rfl hi ?_
      refine bi_TcI (as := [.ref 77, .int (X.2 ((y4 + (1 : Int32))).toNatClampNeg), .int (X.2 ((y4 + (2 : Int32))).toNatClampNeg), .int (X.2 ((y4 + (3 : Int32))).toNatClampNeg)]) rfl rfl ?_
      refine cI.mono h (fun r73 s73 h => ?_) (fun _ _ h => h.elim)
      refine bi_Tr 2 (s' := (1559, [(6, .int r73), (5, .int r72), (0, .ref 4999), (1, .ref 0), (2, .ref 77), (3, .ref 112), (4, .int y4)], [.ref 77], st_mm s73)) rfl ?_
      refine bi_TcI (as := [.ref 77]) rfl rfl ?_
      refine cI.mono h (fun r74 s74 h => ?_) (fun _ _ h => h.elim)
      refine bi_Tr 2 (s' := ((if r74 = r72 then 1569 else 1567), [(6, .int r73), (5, .int r72), (0, .ref 4999), (1, .ref 0), (2, .ref 77), (3, .ref 112), (4, .int y4)], [], st_mm s74)) rfl (bi_Tif (fun hc => ?_) (fun hc => ?_))
      · have h := h.1 hc
        refine bi_Tr 2 (s' := ((if ¬ r72 = 0 then 1586 else 1574), [(6, .int r73), (5, .int r72), (0, .ref 4999), (1, .ref 0), (2, .ref 77), (3, .ref 112), (4, .int y4)], [], st_mm s74)) rfl (bi_Tif (fun hc => ?_) (fun hc => ?_))
        · have h := h.1 hc
          refine bi_Tr 3 (s' := (23, [(4, .int (y4 + (6 : Int32))), (6, .int r73), (5, .int r72), (0, .ref 4999), (1, .ref 0), (2, .ref 77), (3, .ref 112)], [], st_mm s74)) rfl ?_
          exact bi_Tww h rfl rfl ⟨rfl, rfl, rfl, rfl, rfl, trivial⟩
        · have h := h.2 hc
          refine bi_Tr 2 (s' := (1576, [(6, .int r73), (5, .int r72), (0, .ref 4999), (1, .ref 0), (2, .ref 77), (3, .ref 112), (4, .int y4)], [.int (0 : Int32), .ref 112], st_mm s74)) rfl ?_
          obtain ⟨hi, h⟩ := h
          refine bi_Tlal rfl rfl hi ?_
          refine bi_Tr 4 (s' := ((if (lg_cmp (st_gl s74 112 ((0 : Int32)).toNatClampNeg) (r73).toInt64) = 0 then 1586 else 1584), [(6, .int r73), (5, .int r72), (0, .ref 4999), (1, .ref 0), (2, .ref 77), (3, .ref 112), (4, .int y4)], [], st_mm s74)) rfl (bi_Tif (fun hc => ?_) (fun hc => ?_))
          · have h := h.1 hc
            refine bi_Tr 3 (s' := (23, [(4, .int (y4 + (6 : Int32))), (6, .int r73), (5, .int r72), (0, .ref 4999), (1, .ref 0), (2, .ref 77), (3, .ref 112)], [], st_mm s74)) rfl ?_
            exact bi_Tww h rfl rfl ⟨rfl, rfl, rfl, rfl, rfl, trivial⟩
          · have h := h.2 hc
            refine bi_Tr 1 (s' := (1585, [(6, .int r73), (5, .int r72), (0, .ref 4999), (1, .ref 0), (2, .ref 77), (3, .ref 112), (4, .int y4)], [.int (0 : Int32)], st_mm s74)) rfl ?_
            exact bi_Tv rfl rfl (Or.inl ⟨_, _, rfl, h⟩)
      · have h := h.2 hc
        refine bi_Tr 1 (s' := (1568, [(6, .int r73), (5, .int r72), (0, .ref 4999), (1, .ref 0), (2, .ref 77), (3, .ref 112), (4, .int y4)], [.int (0 : Int32)], st_mm s74)) rfl ?_
        exact bi_Tv rfl rfl (Or.inl ⟨_, _, rfl, h⟩)
    have h := h.2 hc
    have hn20 := lv_neT hc (a := 20) rfl
    by_cases hc : ((X.2 (y4).toNatClampNeg) &&& (31 : Int32)) = (21 : Int32)
    · rw [hc] at ht; cases ht
      have h := h.1 hc
      refine bi_Tr 5 (s' := (1595, [(0, .ref 4999), (1, .ref 0), (2, .ref 77), (3, .ref 112), (4, .int y4)], [.int (y4 + (1 : Int32)), .ref 4999, .ref 0], st_mm s)) rfl ?_
      obtain ⟨hi, h⟩ := h
      refine bi_Tsal rfl hi ?_
      refine bi_Tr 4 (s' := (1601, [(0, .ref 4999), (1, .ref 0), (2, .ref 77), (3, .ref 112), (4, .int y4)], [.int (y4 + (2 : Int32)), .ref 4999, .int (X.2 ((y4 + (1 : Int32))).toNatClampNeg), .ref 0], st_mm s)) rfl ?_
      obtain ⟨hi, h⟩ := h
      refine bi_Tsal rfl hi ?_
      refine bi_Tr 4 (s' := (1607, [(0, .ref 4999), (1, .ref 0), (2, .ref 77), (3, .ref 112), (4, .int y4)], [.int (y4 + (3 : Int32)), .ref 4999, .int (X.2 ((y4 + (2 : Int32))).toNatClampNeg), .int (X.2 ((y4 + (1 : Int32))).toNatClampNeg), .ref 0], st_mm s)) rfl ?_
      obtain ⟨hi, h⟩ := h
      refine bi_Tsal rfl hi ?_
      refine bi_Tr 1 (s' := ((if (X.2 ((y4 + (3 : Int32))).toNatClampNeg) = 0 then 1615 else 1611), [(0, .ref 4999), (1, .ref 0), (2, .ref 77), (3, .ref 112), (4, .int y4)], [.int (X.2 ((y4 + (2 : Int32))).toNatClampNeg), .int (X.2 ((y4 + (1 : Int32))).toNatClampNeg), .ref 0], st_mm s)) rfl (bi_Tif (fun hc => ?_) (fun hc => ?_))
      · have h := h.1 hc
        refine bi_Tr 2 (s' := (1617, [(0, .ref 4999), (1, .ref 0), (2, .ref 77), (3, .ref 112), (4, .int y4)], [.ref 112, .int (0 : Int32), .int (X.2 ((y4 + (2 : Int32))).toNatClampNeg), .int (X.2 ((y4 + (1 : Int32))).toNatClampNeg), .ref 0], st_mm s)) rfl ?_
        refine bi_TcI (as := [.ref 0, .int (X.2 ((y4 + (1 : Int32))).toNatClampNeg), .int (X.2 ((y4 + (2 : Int32))).toNatClampNeg), .int (0 : Int32), .ref 112]) rfl rfl ?_
        refine cI.mono h (fun r75 s75 h => ?_) (fun _ _ h => h.elim)
        refine bi_Tr 6 (s' := (1628, [(5, .int r75), (0, .ref 4999), (1, .ref 0), (2, .ref 77), (3, .ref 112), (4, .int y4)], [.int (y4 + (1 : Int32)), .ref 4999, .ref 77], st_mm s75)) rfl ?_
        obtain ⟨hi, h⟩ := h
        refine bi_Tsal rfl hi ?_
        refine bi_Tr 4 (s' := (1634, [(5, .int r75), (0, .ref 4999), (1, .ref 0), (2, .ref 77), (3, .ref 112), (4, .int y4)], [.int (y4 + (2 : Int32)), .ref 4999, .int (X.2 ((y4 + (1 : Int32))).toNatClampNeg), .ref 77], st_mm s75)) rfl ?_
        obtain ⟨hi, h⟩ := h
        refine bi_Tsal rfl hi ?_
        refine bi_Tr 4 (s' := (1640, [(5, .int r75), (0, .ref 4999), (1, .ref 0), (2, .ref 77), (3, .ref 112), (4, .int y4)], [.int (y4 + (3 : Int32)), .ref 4999, .int (X.2 ((y4 + (2 : Int32))).toNatClampNeg), .int (X.2 ((y4 + (1 : Int32))).toNatClampNeg), .ref 77], st_mm s75)) rfl ?_
        obtain ⟨hi, h⟩ := h
        refine bi_Tsal rfl hi ?_
        refine bi_Tr 1 (s' := ((if (X.2 ((y4 + (3 : Int32))).toNatClampNeg) = 0 then 1648 else 1644), [(5, .int r75), (0, .ref 4999), (1, .ref 0), (2, .ref 77), (3, .ref 112), (4, .int y4)], [.int (X.2 ((y4 + (2 : Int32))).toNatClampNeg), .int (X.2 ((y4 + (1 : Int32))).toNatClampNeg), .ref 77], st_mm s75)) rfl (bi_Tif (fun hc => ?_) (fun hc => ?_))
        · have h := h.1 hc
          refine bi_Tr 1 (s' := (1649, [(5, .int r75), (0, .ref 4999), (1, .ref 0), (2, .ref 77), (3, .ref 112), (4, .int y4)], [.int (0 : Int32), .int (X.2 ((y4 + (2 : Int32))).toNatClampNeg), .int (X.2 ((y4 + (1 : Int32))).toNatClampNeg), .ref 77], st_mm s75)) rfl ?_
          refine bi_TcI (as := [.ref 77, .int (X.2 ((y4 + (1 : Int32))).toNatClampNeg), .int (X.2 ((y4 + (2 : Int32))).toNatClampNeg), .int (0 : Int32)]) rfl rfl ?_
          refine cI.mono h (fun r76 s76 h => ?_) (fun _ _ h => h.elim)
          refine bi_Tr 2 (s' := (1655, [(6, .int r76), (5, .int r75), (0, .ref 4999), (1, .ref 0), (2, .ref 77), (3, .ref 112), (4, .int y4)], [.ref 77], st_mm s76)) rfl ?_
          refine bi_TcI (as := [.ref 77]) rfl rfl ?_
          refine cI.mono h (fun r77 s77 h => ?_) (fun _ _ h => h.elim)
          refine bi_Tr 2 (s' := ((if r77 = r75 then 1665 else 1663), [(6, .int r76), (5, .int r75), (0, .ref 4999), (1, .ref 0), (2, .ref 77), (3, .ref 112), (4, .int y4)], [], st_mm s77)) rfl (bi_Tif (fun hc => ?_) (fun hc => ?_))
          · have h := h.1 hc
            refine bi_Tr 2 (s' := ((if ¬ r75 = 0 then 1682 else 1670), [(6, .int r76), (5, .int r75), (0, .ref 4999), (1, .ref 0), (2, .ref 77), (3, .ref 112), (4, .int y4)], [], st_mm s77)) rfl (bi_Tif (fun hc => ?_) (fun hc => ?_))
            · have h := h.1 hc
              refine bi_Tr 3 (s' := (23, [(4, .int (y4 + (6 : Int32))), (6, .int r76), (5, .int r75), (0, .ref 4999), (1, .ref 0), (2, .ref 77), (3, .ref 112)], [], st_mm s77)) rfl ?_
              exact bi_Tww h rfl rfl ⟨rfl, rfl, rfl, rfl, rfl, trivial⟩
            · have h := h.2 hc
              refine bi_Tr 2 (s' := (1672, [(6, .int r76), (5, .int r75), (0, .ref 4999), (1, .ref 0), (2, .ref 77), (3, .ref 112), (4, .int y4)], [.int (0 : Int32), .ref 112], st_mm s77)) rfl ?_
              obtain ⟨hi, h⟩ := h
              refine bi_Tlal rfl rfl hi ?_
              refine bi_Tr 4 (s' := ((if (lg_cmp (st_gl s77 112 ((0 : Int32)).toNatClampNeg) (r76).toInt64) = 0 then 1682 else 1680), [(6, .int r76), (5, .int r75), (0, .ref 4999), (1, .ref 0), (2, .ref 77), (3, .ref 112), (4, .int y4)], [], st_mm s77)) rfl (bi_Tif (fun hc => ?_) (fun hc => ?_))
              · have h := h.1 hc
                refine bi_Tr 3 (s' := (23, [(4, .int (y4 + (6 : Int32))), (6, .int r76), (5, .int r75), (0, .ref 4999), (1, .ref 0), (2, .ref 77), (3, .ref 112)], [], st_mm s77)) rfl ?_
                exact bi_Tww h rfl rfl ⟨rfl, rfl, rfl, rfl, rfl, trivial⟩
              · have h := h.2 hc
                refine bi_Tr 1 (s' := (1681, [(6, .int r76), (5, .int r75), (0, .ref 4999), (1, .ref 0), (2, .ref 77), (3, .ref 112), (4, .int y4)], [.int (0 : Int32)], st_mm s77)) rfl ?_
                exact bi_Tv rfl rfl (Or.inl ⟨_, _, rfl, h⟩)
          · have h := h.2 hc
            refine bi_Tr 1 (s' := (1664, [(6, .int r76), (5, .int r75), (0, .ref 4999), (1, .ref 0), (2, .ref 77), (3, .ref 112), (4, .int y4)], [.int (0 : Int32)], st_mm s77)) rfl ?_
            exact bi_Tv rfl rfl (Or.inl ⟨_, _, rfl, h⟩)
        · have h := h.2 hc
          refine bi_Tr 2 (s' := (1649, [(5, .int r75), (0, .ref 4999), (1, .ref 0), (2, .ref 77), (3, .ref 112), (4, .int y4)], [.int (1 : Int32), .int (X.2 ((y4 + (2 : Int32))).toNatClampNeg), .int (X.2 ((y4 + (1 : Int32))).toNatClampNeg), .ref 77], st_mm s75)) rfl ?_
          refine bi_TcI (as := [.ref 77, .int (X.2 ((y4 + (1 : Int32))).toNatClampNeg), .int (X.2 ((y4 + (2 : Int32))).toNatClampNeg), .int (1 : Int32)]) rfl rfl ?_
          refine cI.mono h (fun r78 s78 h => ?_) (fun _ _ h => h.elim)
          refine bi_Tr 2 (s' := (1655, [(6, .int r78), (5, .int r75), (0, .ref 4999), (1, .ref 0), (2, .ref 77), (3, .ref 112), (4, .int y4)], [.ref 77], st_mm s78)) rfl ?_
          refine bi_TcI (as := [.ref 77]) rfl rfl ?_
          refine cI.mono h (fun r79 s79 h => ?_) (fun _ _ h => h.elim)
          refine bi_Tr 2 (s' := ((if r79 = r75 then 1665 else 1663), [(6, .int r78), (5, .int r75), (0, .ref 4999), (1, .ref 0), (2, .ref 77), (3, .ref 112), (4, .int y4)], [], st_mm s79)) rfl (bi_Tif (fun hc => ?_) (fun hc => ?_))
          · have h := h.1 hc
            refine bi_Tr 2 (s' := ((if ¬ r75 = 0 then 1682 else 1670), [(6, .int r78), (5, .int r75), (0, .ref 4999), (1, .ref 0), (2, .ref 77), (3, .ref 112), (4, .int y4)], [], st_mm s79)) rfl (bi_Tif (fun hc => ?_) (fun hc => ?_))
            · have h := h.1 hc
              refine bi_Tr 3 (s' := (23, [(4, .int (y4 + (6 : Int32))), (6, .int r78), (5, .int r75), (0, .ref 4999), (1, .ref 0), (2, .ref 77), (3, .ref 112)], [], st_mm s79)) rfl ?_
              exact bi_Tww h rfl rfl ⟨rfl, rfl, rfl, rfl, rfl, trivial⟩
            · have h := h.2 hc
              refine bi_Tr 2 (s' := (1672, [(6, .int r78), (5, .int r75), (0, .ref 4999), (1, .ref 0), (2, .ref 77), (3, .ref 112), (4, .int y4)], [.int (0 : Int32), .ref 112], st_mm s79)) rfl ?_
              obtain ⟨hi, h⟩ := h
              refine bi_Tlal rfl rfl hi ?_
              refine bi_Tr 4 (s' := ((if (lg_cmp (st_gl s79 112 ((0 : Int32)).toNatClampNeg) (r78).toInt64) = 0 then 1682 else 1680), [(6, .int r78), (5, .int r75), (0, .ref 4999), (1, .ref 0), (2, .ref 77), (3, .ref 112), (4, .int y4)], [], st_mm s79)) rfl (bi_Tif (fun hc => ?_) (fun hc => ?_))
              · have h := h.1 hc
                refine bi_Tr 3 (s' := (23, [(4, .int (y4 + (6 : Int32))), (6, .int r78), (5, .int r75), (0, .ref 4999), (1, .ref 0), (2, .ref 77), (3, .ref 112)], [], st_mm s79)) rfl ?_
                exact bi_Tww h rfl rfl ⟨rfl, rfl, rfl, rfl, rfl, trivial⟩
              · have h := h.2 hc
                refine bi_Tr 1 (s' := (1681, [(6, .int r78), (5, .int r75), (0, .ref 4999), (1, .ref 0), (2, .ref 77), (3, .ref 112), (4, .int y4)], [.int (0 : Int32)], st_mm s79)) rfl ?_
                exact bi_Tv rfl rfl (Or.inl ⟨_, _, rfl, h⟩)
          · have h := h.2 hc
            refine bi_Tr 1 (s' := (1664, [(6, .int r78), (5, .int r75), (0, .ref 4999), (1, .ref 0), (2, .ref 77), (3, .ref 112), (4, .int y4)], [.int (0 : Int32)], st_mm s79)) rfl ?_
            exact bi_Tv rfl rfl (Or.inl ⟨_, _, rfl, h⟩)
      · have h := h.2 hc
        refine bi_Tr 3 (s' := (1617, [(0, .ref 4999), (1, .ref 0), (2, .ref 77), (3, .ref 112), (4, .int y4)], [.ref 112, .int (1 : Int32), .int (X.2 ((y4 + (2 : Int32))).toNatClampNeg), .int (X.2 ((y4 + (1 : Int32))).toNatClampNeg), .ref 0], st_mm s)) rfl ?_
        refine bi_TcI (as := [.ref 0, .int (X.2 ((y4 + (1 : Int32))).toNatClampNeg), .int (X.2 ((y4 + (2 : Int32))).toNatClampNeg), .int (1 : Int32), .ref 112]) rfl rfl ?_
        refine cI.mono h (fun r80 s80 h => ?_) (fun _ _ h => h.elim)
        refine bi_Tr 6 (s' := (1628, [(5, .int r80), (0, .ref 4999), (1, .ref 0), (2, .ref 77), (3, .ref 112), (4, .int y4)], [.int (y4 + (1 : Int32)), .ref 4999, .ref 77], st_mm s80)) rfl ?_
        obtain ⟨hi, h⟩ := h
        refine bi_Tsal rfl hi ?_
        refine bi_Tr 4 (s' := (1634, [(5, .int r80), (0, .ref 4999), (1, .ref 0), (2, .ref 77), (3, .ref 112), (4, .int y4)], [.int (y4 + (2 : Int32)), .ref 4999, .int (X.2 ((y4 + (1 : Int32))).toNatClampNeg), .ref 77], st_mm s80)) rfl ?_
        obtain ⟨hi, h⟩ := h
        refine bi_Tsal rfl hi ?_
        refine bi_Tr 4 (s' := (1640, [(5, .int r80), (0, .ref 4999), (1, .ref 0), (2, .ref 77), (3, .ref 112), (4, .int y4)], [.int (y4 + (3 : Int32)), .ref 4999, .int (X.2 ((y4 + (2 : Int32))).toNatClampNeg), .int (X.2 ((y4 + (1 : Int32))).toNatClampNeg), .ref 77], st_mm s80)) rfl ?_
        obtain ⟨hi, h⟩ := h
        refine bi_Tsal rfl hi ?_
        refine bi_Tr 1 (s' := ((if (X.2 ((y4 + (3 : Int32))).toNatClampNeg) = 0 then 1648 else 1644), [(5, .int r80), (0, .ref 4999), (1, .ref 0), (2, .ref 77), (3, .ref 112), (4, .int y4)], [.int (X.2 ((y4 + (2 : Int32))).toNatClampNeg), .int (X.2 ((y4 + (1 : Int32))).toNatClampNeg), .ref 77], st_mm s80)) rfl (bi_Tif (fun hc => ?_) (fun hc => ?_))
        · have h := h.1 hc
          refine bi_Tr 1 (s' := (1649, [(5, .int r80), (0, .ref 4999), (1, .ref 0), (2, .ref 77), (3, .ref 112), (4, .int y4)], [.int (0 : Int32), .int (X.2 ((y4 + (2 : Int32))).toNatClampNeg), .int (X.2 ((y4 + (1 : Int32))).toNatClampNeg), .ref 77], st_mm s80)) rfl ?_
          refine bi_TcI (as := [.ref 77, .int (X.2 ((y4 + (1 : Int32))).toNatClampNeg), .int (X.2 ((y4 + (2 : Int32))).toNatClampNeg), .int (0 : Int32)]) rfl rfl ?_
          refine cI.mono h (fun r81 s81 h => ?_) (fun _ _ h => h.elim)
          refine bi_Tr 2 (s' := (1655, [(6, .int r81), (5, .int r80), (0, .ref 4999), (1, .ref 0), (2, .ref 77), (3, .ref 112), (4, .int y4)], [.ref 77], st_mm s81)) rfl ?_
          refine bi_TcI (as := [.ref 77]) rfl rfl ?_
          refine cI.mono h (fun r82 s82 h => ?_) (fun _ _ h => h.elim)
          refine bi_Tr 2 (s' := ((if r82 = r80 then 1665 else 1663), [(6, .int r81), (5, .int r80), (0, .ref 4999), (1, .ref 0), (2, .ref 77), (3, .ref 112), (4, .int y4)], [], st_mm s82)) rfl (bi_Tif (fun hc => ?_) (fun hc => ?_))
          · have h := h.1 hc
            refine bi_Tr 2 (s' := ((if ¬ r80 = 0 then 1682 else 1670), [(6, .int r81), (5, .int r80), (0, .ref 4999), (1, .ref 0), (2, .ref 77), (3, .ref 112), (4, .int y4)], [], st_mm s82)) rfl (bi_Tif (fun hc => ?_) (fun hc => ?_))
            · have h := h.1 hc
              refine bi_Tr 3 (s' := (23, [(4, .int (y4 + (6 : Int32))), (6, .int r81), (5, .int r80), (0, .ref 4999), (1, .ref 0), (2, .ref 77), (3, .ref 112)], [], st_mm s82)) rfl ?_
              exact bi_Tww h rfl rfl ⟨rfl, rfl, rfl, rfl, rfl, trivial⟩
            · have h := h.2 hc
              refine bi_Tr 2 (s' := (1672, [(6, .int r81), (5, .int r80), (0, .ref 4999), (1, .ref 0), (2, .ref 77), (3, .ref 112), (4, .int y4)], [.int (0 : Int32), .ref 112], st_mm s82)) rfl ?_
              obtain ⟨hi, h⟩ := h
              refine bi_Tlal rfl rfl hi ?_
              refine bi_Tr 4 (s' := ((if (lg_cmp (st_gl s82 112 ((0 : Int32)).toNatClampNeg) (r81).toInt64) = 0 then 1682 else 1680), [(6, .int r81), (5, .int r80), (0, .ref 4999), (1, .ref 0), (2, .ref 77), (3, .ref 112), (4, .int y4)], [], st_mm s82)) rfl (bi_Tif (fun hc => ?_) (fun hc => ?_))
              · have h := h.1 hc
                refine bi_Tr 3 (s' := (23, [(4, .int (y4 + (6 : Int32))), (6, .int r81), (5, .int r80), (0, .ref 4999), (1, .ref 0), (2, .ref 77), (3, .ref 112)], [], st_mm s82)) rfl ?_
                exact bi_Tww h rfl rfl ⟨rfl, rfl, rfl, rfl, rfl, trivial⟩
              · have h := h.2 hc
                refine bi_Tr 1 (s' := (1681, [(6, .int r81), (5, .int r80), (0, .ref 4999), (1, .ref 0), (2, .ref 77), (3, .ref 112), (4, .int y4)], [.int (0 : Int32)], st_mm s82)) rfl ?_
                exact bi_Tv rfl rfl (Or.inl ⟨_, _, rfl, h⟩)
          · have h := h.2 hc
            refine bi_Tr 1 (s' := (1664, [(6, .int r81), (5, .int r80), (0, .ref 4999), (1, .ref 0), (2, .ref 77), (3, .ref 112), (4, .int y4)], [.int (0 : Int32)], st_mm s82)) rfl ?_
            exact bi_Tv rfl rfl (Or.inl ⟨_, _, rfl, h⟩)
        · have h := h.2 hc
          refine bi_Tr 2 (s' := (1649, [(5, .int r80), (0, .ref 4999), (1, .ref 0), (2, .ref 77), (3, .ref 112), (4, .int y4)], [.int (1 : Int32), .int (X.2 ((y4 + (2 : Int32))).toNatClampNeg), .int (X.2 ((y4 + (1 : Int32))).toNatClampNeg), .ref 77], st_mm s80)) rfl ?_
          refine bi_TcI (as := [.ref 77, .int (X.2 ((y4 + (1 : Int32))).toNatClampNeg), .int (X.2 ((y4 + (2 : Int32))).toNatClampNeg), .int (1 : Int32)]) rfl rfl ?_
          refine cI.mono h (fun r83 s83 h => ?_) (fun _ _ h => h.elim)
          refine bi_Tr 2 (s' := (1655, [(6, .int r83), (5, .int r80), (0, .ref 4999), (1, .ref 0), (2, .ref 77), (3, .ref 112), (4, .int y4)], [.ref 77], st_mm s83)) rfl ?_
          refine bi_TcI (as := [.ref 77]) rfl rfl ?_
          refine cI.mono h (fun r84 s84 h => ?_) (fun _ _ h => h.elim)
          refine bi_Tr 2 (s' := ((if r84 = r80 then 1665 else 1663), [(6, .int r83), (5, .int r80), (0, .ref 4999), (1, .ref 0), (2, .ref 77), (3, .ref 112), (4, .int y4)], [], st_mm s84)) rfl (bi_Tif (fun hc => ?_) (fun hc => ?_))
          · have h := h.1 hc
            refine bi_Tr 2 (s' := ((if ¬ r80 = 0 then 1682 else 1670), [(6, .int r83), (5, .int r80), (0, .ref 4999), (1, .ref 0), (2, .ref 77), (3, .ref 112), (4, .int y4)], [], st_mm s84)) rfl (bi_Tif (fun hc => ?_) (fun hc => ?_))
            · have h := h.1 hc
              refine bi_Tr 3 (s' := (23, [(4, .int (y4 + (6 : Int32))), (6, .int r83), (5, .int r80), (0, .ref 4999), (1, .ref 0), (2, .ref 77), (3, .ref 112)], [], st_mm s84)) rfl ?_
              exact bi_Tww h rfl rfl ⟨rfl, rfl, rfl, rfl, rfl, trivial⟩
            · have h := h.2 hc
              refine bi_Tr 2 (s' := (1672, [(6, .int r83), (5, .int r80), (0, .ref 4999), (1, .ref 0), (2, .ref 77), (3, .ref 112), (4, .int y4)], [.int (0 : Int32), .ref 112], st_mm s84)) rfl ?_
              obtain ⟨hi, h⟩ := h
              refine bi_Tlal rfl rfl hi ?_
              refine bi_Tr 4 (s' := ((if (lg_cmp (st_gl s84 112 ((0 : Int32)).toNatClampNeg) (r83).toInt64) = 0 then 1682 else 1680), [(6, .int r83), (5, .int r80), (0, .ref 4999), (1, .ref 0), (2, .ref 77), (3, .ref 112), (4, .int y4)], [], st_mm s84)) rfl (bi_Tif (fun hc => ?_) (fun hc => ?_))
              · have h := h.1 hc
                refine bi_Tr 3 (s' := (23, [(4, .int (y4 + (6 : Int32))), (6, .int r83), (5, .int r80), (0, .ref 4999), (1, .ref 0), (2, .ref 77), (3, .ref 112)], [], st_mm s84)) rfl ?_
                exact bi_Tww h rfl rfl ⟨rfl, rfl, rfl, rfl, rfl, trivial⟩
              · have h := h.2 hc
                refine bi_Tr 1 (s' := (1681, [(6, .int r83), (5, .int r80), (0, .ref 4999), (1, .ref 0), (2, .ref 77), (3, .ref 112), (4, .int y4)], [.int (0 : Int32)], st_mm s84)) rfl ?_
                exact bi_Tv rfl rfl (Or.inl ⟨_, _, rfl, h⟩)
          · have h := h.2 hc
            refine bi_Tr 1 (s' := (1664, [(6, .int r83), (5, .int r80), (0, .ref 4999), (1, .ref 0), (2, .ref 77), (3, .ref 112), (4, .int y4)], [.int (0 : Int32)], st_mm s84)) rfl ?_
            exact bi_Tv rfl rfl (Or.inl ⟨_, _, rfl, h⟩)
    have h := h.2 hc
    have hn21 := lv_neT hc (a := 21) rfl
    by_cases hc : ((X.2 (y4).toNatClampNeg) &&& (31 : Int32)) = (22 : Int32)
    · rw [hc] at ht; cases ht
      have h := h.1 hc
      refine bi_Tr 1 (s' := (1686, [(0, .ref 4999), (1, .ref 0), (2, .ref 77), (3, .ref 112), (4, .int y4)], [.ref 0], st_mm s)) rfl ?_
      refine bi_TcV (as := [.ref 0]) rfl rfl ?_
      refine cV.mono h (fun s85 h => ?_) (fun _ _ h => h.elim)
      refine bi_Tr 1 (s' := (1690, [(0, .ref 4999), (1, .ref 0), (2, .ref 77), (3, .ref 112), (4, .int y4)], [.ref 77], st_mm s85)) rfl ?_
      refine bi_TcV (as := [.ref 77]) rfl rfl ?_
      refine cV.mono h (fun s86 h => ?_) (fun _ _ h => h.elim)
      refine bi_Tr 3 (s' := (23, [(4, .int (y4 + (6 : Int32))), (0, .ref 4999), (1, .ref 0), (2, .ref 77), (3, .ref 112)], [], st_mm s86)) rfl ?_
      exact bi_Tww h rfl rfl ⟨rfl, rfl, rfl, rfl, rfl, trivial⟩
    have h := h.2 hc
    have hn22 := lv_neT hc (a := 22) rfl
    by_cases hc : ((X.2 (y4).toNatClampNeg) &&& (31 : Int32)) = (23 : Int32)
    · rw [hc] at ht; cases ht
      have h := h.1 hc
      refine bi_Tr 5 (s' := (1702, [(0, .ref 4999), (1, .ref 0), (2, .ref 77), (3, .ref 112), (4, .int y4)], [.int (y4 + (1 : Int32)), .ref 4999, .ref 0], st_mm s)) rfl ?_
      obtain ⟨hi, h⟩ := h
      refine bi_Tsal rfl hi ?_
      refine bi_Tr 1 (s' := (1704, [(0, .ref 4999), (1, .ref 0), (2, .ref 77), (3, .ref 112), (4, .int y4)], [.ref 112, .int (X.2 ((y4 + (1 : Int32))).toNatClampNeg), .ref 0], st_mm s)) rfl ?_
      refine bi_TcI (as := [.ref 0, .int (X.2 ((y4 + (1 : Int32))).toNatClampNeg), .ref 112]) rfl rfl ?_
      refine cI.mono h (fun r87 s87 h => ?_) (fun _ _ h => h.elim)
      refine bi_Tr 6 (s' := (1715, [(5, .int r87), (0, .ref 4999), (1, .ref 0), (2, .ref 77), (3, .ref 112), (4, .int y4)], [.int (y4 + (1 : Int32)), .ref 4999, .ref 77], st_mm s87)) rfl ?_
      obtain ⟨hi, h⟩ := h
      refine bi_Tsal rfl hi ?_
      refine bi_TcI (as := [.ref 77, .int (X.2 ((y4 + (1 : Int32))).toNatClampNeg)]) rfl rfl ?_
      refine cI.mono h (fun r88 s88 h => ?_) (fun _ _ h => h.elim)
      refine bi_Tr 2 (s' := (1722, [(6, .int r88), (5, .int r87), (0, .ref 4999), (1, .ref 0), (2, .ref 77), (3, .ref 112), (4, .int y4)], [.ref 77], st_mm s88)) rfl ?_
      refine bi_TcI (as := [.ref 77]) rfl rfl ?_
      refine cI.mono h (fun r89 s89 h => ?_) (fun _ _ h => h.elim)
      refine bi_Tr 2 (s' := ((if r89 = r87 then 1732 else 1730), [(6, .int r88), (5, .int r87), (0, .ref 4999), (1, .ref 0), (2, .ref 77), (3, .ref 112), (4, .int y4)], [], st_mm s89)) rfl (bi_Tif (fun hc => ?_) (fun hc => ?_))
      · have h := h.1 hc
        refine bi_Tr 2 (s' := ((if ¬ r87 = 0 then 1749 else 1737), [(6, .int r88), (5, .int r87), (0, .ref 4999), (1, .ref 0), (2, .ref 77), (3, .ref 112), (4, .int y4)], [], st_mm s89)) rfl (bi_Tif (fun hc => ?_) (fun hc => ?_))
        · have h := h.1 hc
          refine bi_Tr 3 (s' := (23, [(4, .int (y4 + (6 : Int32))), (6, .int r88), (5, .int r87), (0, .ref 4999), (1, .ref 0), (2, .ref 77), (3, .ref 112)], [], st_mm s89)) rfl ?_
          exact bi_Tww h rfl rfl ⟨rfl, rfl, rfl, rfl, rfl, trivial⟩
        · have h := h.2 hc
          refine bi_Tr 2 (s' := (1739, [(6, .int r88), (5, .int r87), (0, .ref 4999), (1, .ref 0), (2, .ref 77), (3, .ref 112), (4, .int y4)], [.int (0 : Int32), .ref 112], st_mm s89)) rfl ?_
          obtain ⟨hi, h⟩ := h
          refine bi_Tlal rfl rfl hi ?_
          refine bi_Tr 4 (s' := ((if (lg_cmp (st_gl s89 112 ((0 : Int32)).toNatClampNeg) (r88).toInt64) = 0 then 1749 else 1747), [(6, .int r88), (5, .int r87), (0, .ref 4999), (1, .ref 0), (2, .ref 77), (3, .ref 112), (4, .int y4)], [], st_mm s89)) rfl (bi_Tif (fun hc => ?_) (fun hc => ?_))
          · have h := h.1 hc
            refine bi_Tr 3 (s' := (23, [(4, .int (y4 + (6 : Int32))), (6, .int r88), (5, .int r87), (0, .ref 4999), (1, .ref 0), (2, .ref 77), (3, .ref 112)], [], st_mm s89)) rfl ?_
            exact bi_Tww h rfl rfl ⟨rfl, rfl, rfl, rfl, rfl, trivial⟩
          · have h := h.2 hc
            refine bi_Tr 1 (s' := (1748, [(6, .int r88), (5, .int r87), (0, .ref 4999), (1, .ref 0), (2, .ref 77), (3, .ref 112), (4, .int y4)], [.int (0 : Int32)], st_mm s89)) rfl ?_
            exact bi_Tv rfl rfl (Or.inl ⟨_, _, rfl, h⟩)
      · have h := h.2 hc
        refine bi_Tr 1 (s' := (1731, [(6, .int r88), (5, .int r87), (0, .ref 4999), (1, .ref 0), (2, .ref 77), (3, .ref 112), (4, .int y4)], [.int (0 : Int32)], st_mm s89)) rfl ?_
        exact bi_Tv rfl rfl (Or.inl ⟨_, _, rfl, h⟩)
    have h := h.2 hc
    have hn23 := lv_neT hc (a := 23) rfl
    by_cases hc : ((X.2 (y4).toNatClampNeg) &&& (31 : Int32)) = (24 : Int32)
    · rw [hc] at ht; cases ht
      have h := h.1 hc
      refine bi_Tr 5 (s' := (1758, [(0, .ref 4999), (1, .ref 0), (2, .ref 77), (3, .ref 112), (4, .int y4)], [.int (y4 + (1 : Int32)), .ref 4999, .ref 0], st_mm s)) rfl ?_
      obtain ⟨hi, h⟩ := h
      refine bi_Tsal rfl hi ?_
      refine bi_Tr 1 (s' := (1760, [(0, .ref 4999), (1, .ref 0), (2, .ref 77), (3, .ref 112), (4, .int y4)], [.ref 112, .int (X.2 ((y4 + (1 : Int32))).toNatClampNeg), .ref 0], st_mm s)) rfl ?_
      refine bi_TcI (as := [.ref 0, .int (X.2 ((y4 + (1 : Int32))).toNatClampNeg), .ref 112]) rfl rfl ?_
      refine cI.mono h (fun r90 s90 h => ?_) (fun _ _ h => h.elim)
      refine bi_Tr 6 (s' := (1771, [(5, .int r90), (0, .ref 4999), (1, .ref 0), (2, .ref 77), (3, .ref 112), (4, .int y4)], [.int (y4 + (1 : Int32)), .ref 4999, .ref 77], st_mm s90)) rfl ?_
      obtain ⟨hi, h⟩ := h
      refine bi_Tsal rfl hi ?_
      refine bi_TcI (as := [.ref 77, .int (X.2 ((y4 + (1 : Int32))).toNatClampNeg)]) rfl rfl ?_
      refine cI.mono h (fun r91 s91 h => ?_) (fun _ _ h => h.elim)
      refine bi_Tr 2 (s' := (1778, [(6, .int r91), (5, .int r90), (0, .ref 4999), (1, .ref 0), (2, .ref 77), (3, .ref 112), (4, .int y4)], [.ref 77], st_mm s91)) rfl ?_
      refine bi_TcI (as := [.ref 77]) rfl rfl ?_
      refine cI.mono h (fun r92 s92 h => ?_) (fun _ _ h => h.elim)
      refine bi_Tr 2 (s' := ((if r92 = r90 then 1788 else 1786), [(6, .int r91), (5, .int r90), (0, .ref 4999), (1, .ref 0), (2, .ref 77), (3, .ref 112), (4, .int y4)], [], st_mm s92)) rfl (bi_Tif (fun hc => ?_) (fun hc => ?_))
      · have h := h.1 hc
        refine bi_Tr 2 (s' := ((if ¬ r90 = 0 then 1805 else 1793), [(6, .int r91), (5, .int r90), (0, .ref 4999), (1, .ref 0), (2, .ref 77), (3, .ref 112), (4, .int y4)], [], st_mm s92)) rfl (bi_Tif (fun hc => ?_) (fun hc => ?_))
        · have h := h.1 hc
          refine bi_Tr 3 (s' := (23, [(4, .int (y4 + (6 : Int32))), (6, .int r91), (5, .int r90), (0, .ref 4999), (1, .ref 0), (2, .ref 77), (3, .ref 112)], [], st_mm s92)) rfl ?_
          exact bi_Tww h rfl rfl ⟨rfl, rfl, rfl, rfl, rfl, trivial⟩
        · have h := h.2 hc
          refine bi_Tr 2 (s' := (1795, [(6, .int r91), (5, .int r90), (0, .ref 4999), (1, .ref 0), (2, .ref 77), (3, .ref 112), (4, .int y4)], [.int (0 : Int32), .ref 112], st_mm s92)) rfl ?_
          obtain ⟨hi, h⟩ := h
          refine bi_Tlal rfl rfl hi ?_
          refine bi_Tr 4 (s' := ((if (lg_cmp (st_gl s92 112 ((0 : Int32)).toNatClampNeg) (r91).toInt64) = 0 then 1805 else 1803), [(6, .int r91), (5, .int r90), (0, .ref 4999), (1, .ref 0), (2, .ref 77), (3, .ref 112), (4, .int y4)], [], st_mm s92)) rfl (bi_Tif (fun hc => ?_) (fun hc => ?_))
          · have h := h.1 hc
            refine bi_Tr 3 (s' := (23, [(4, .int (y4 + (6 : Int32))), (6, .int r91), (5, .int r90), (0, .ref 4999), (1, .ref 0), (2, .ref 77), (3, .ref 112)], [], st_mm s92)) rfl ?_
            exact bi_Tww h rfl rfl ⟨rfl, rfl, rfl, rfl, rfl, trivial⟩
          · have h := h.2 hc
            refine bi_Tr 1 (s' := (1804, [(6, .int r91), (5, .int r90), (0, .ref 4999), (1, .ref 0), (2, .ref 77), (3, .ref 112), (4, .int y4)], [.int (0 : Int32)], st_mm s92)) rfl ?_
            exact bi_Tv rfl rfl (Or.inl ⟨_, _, rfl, h⟩)
      · have h := h.2 hc
        refine bi_Tr 1 (s' := (1787, [(6, .int r91), (5, .int r90), (0, .ref 4999), (1, .ref 0), (2, .ref 77), (3, .ref 112), (4, .int y4)], [.int (0 : Int32)], st_mm s92)) rfl ?_
        exact bi_Tv rfl rfl (Or.inl ⟨_, _, rfl, h⟩)
    have h := h.2 hc
    have hn24 := lv_neT hc (a := 24) rfl
    by_cases hc : ((X.2 (y4).toNatClampNeg) &&& (31 : Int32)) = (25 : Int32)
    · rw [hc] at ht; cases ht
      have h := h.1 hc
      refine bi_Tr 5 (s' := (1814, [(0, .ref 4999), (1, .ref 0), (2, .ref 77), (3, .ref 112), (4, .int y4)], [.int (y4 + (1 : Int32)), .ref 4999, .ref 0], st_mm s)) rfl ?_
      obtain ⟨hi, h⟩ := h
      refine bi_Tsal rfl hi ?_
      refine bi_Tr 4 (s' := (1820, [(0, .ref 4999), (1, .ref 0), (2, .ref 77), (3, .ref 112), (4, .int y4)], [.int (y4 + (2 : Int32)), .ref 4999, .int (X.2 ((y4 + (1 : Int32))).toNatClampNeg), .ref 0], st_mm s)) rfl ?_
      obtain ⟨hi, h⟩ := h
      refine bi_Tsal rfl hi ?_
      refine bi_Tr 4 (s' := (1826, [(0, .ref 4999), (1, .ref 0), (2, .ref 77), (3, .ref 112), (4, .int y4)], [.int (y4 + (3 : Int32)), .ref 4999, .int (X.2 ((y4 + (2 : Int32))).toNatClampNeg), .int (X.2 ((y4 + (1 : Int32))).toNatClampNeg), .ref 0], st_mm s)) rfl ?_
      obtain ⟨hi, h⟩ := h
      refine bi_Tsal rfl hi ?_
      refine bi_Tr 1 (s' := (1828, [(0, .ref 4999), (1, .ref 0), (2, .ref 77), (3, .ref 112), (4, .int y4)], [.ref 112, .int (X.2 ((y4 + (3 : Int32))).toNatClampNeg), .int (X.2 ((y4 + (2 : Int32))).toNatClampNeg), .int (X.2 ((y4 + (1 : Int32))).toNatClampNeg), .ref 0], st_mm s)) rfl ?_
      refine bi_TcI (as := [.ref 0, .int (X.2 ((y4 + (1 : Int32))).toNatClampNeg), .int (X.2 ((y4 + (2 : Int32))).toNatClampNeg), .int (X.2 ((y4 + (3 : Int32))).toNatClampNeg), .ref 112]) rfl rfl ?_
      refine cI.mono h (fun r93 s93 h => ?_) (fun _ _ h => h.elim)
      refine bi_Tr 6 (s' := (1839, [(5, .int r93), (0, .ref 4999), (1, .ref 0), (2, .ref 77), (3, .ref 112), (4, .int y4)], [.int (y4 + (1 : Int32)), .ref 4999, .ref 77], st_mm s93)) rfl ?_
      obtain ⟨hi, h⟩ := h
      refine bi_Tsal rfl hi ?_
      refine bi_Tr 4 (s' := (1845, [(5, .int r93), (0, .ref 4999), (1, .ref 0), (2, .ref 77), (3, .ref 112), (4, .int y4)], [.int (y4 + (2 : Int32)), .ref 4999, .int (X.2 ((y4 + (1 : Int32))).toNatClampNeg), .ref 77], st_mm s93)) rfl ?_
      obtain ⟨hi, h⟩ := h
      refine bi_Tsal rfl hi ?_
      refine bi_Tr 4 (s' := (1851, [(5, .int r93), (0, .ref 4999), (1, .ref 0), (2, .ref 77), (3, .ref 112), (4, .int y4)], [.int (y4 + (3 : Int32)), .ref 4999, .int (X.2 ((y4 + (2 : Int32))).toNatClampNeg), .int (X.2 ((y4 + (1 : Int32))).toNatClampNeg), .ref 77], st_mm s93)) rfl ?_
      obtain ⟨hi, h⟩ := h
      refine bi_Tsal rfl hi ?_
      refine bi_TcI (as := [.ref 77, .int (X.2 ((y4 + (1 : Int32))).toNatClampNeg), .int (X.2 ((y4 + (2 : Int32))).toNatClampNeg), .int (X.2 ((y4 + (3 : Int32))).toNatClampNeg)]) rfl rfl ?_
      refine cI.mono h (fun r94 s94 h => ?_) (fun _ _ h => h.elim)
      refine bi_Tr 2 (s' := (1858, [(6, .int r94), (5, .int r93), (0, .ref 4999), (1, .ref 0), (2, .ref 77), (3, .ref 112), (4, .int y4)], [.ref 77], st_mm s94)) rfl ?_
      refine bi_TcI (as := [.ref 77]) rfl rfl ?_
      refine cI.mono h (fun r95 s95 h => ?_) (fun _ _ h => h.elim)
      refine bi_Tr 2 (s' := ((if r95 = r93 then 1868 else 1866), [(6, .int r94), (5, .int r93), (0, .ref 4999), (1, .ref 0), (2, .ref 77), (3, .ref 112), (4, .int y4)], [], st_mm s95)) rfl (bi_Tif (fun hc => ?_) (fun hc => ?_))
      · have h := h.1 hc
        refine bi_Tr 2 (s' := ((if ¬ r93 = 0 then 1885 else 1873), [(6, .int r94), (5, .int r93), (0, .ref 4999), (1, .ref 0), (2, .ref 77), (3, .ref 112), (4, .int y4)], [], st_mm s95)) rfl (bi_Tif (fun hc => ?_) (fun hc => ?_))
        · have h := h.1 hc
          refine bi_Tr 3 (s' := (23, [(4, .int (y4 + (6 : Int32))), (6, .int r94), (5, .int r93), (0, .ref 4999), (1, .ref 0), (2, .ref 77), (3, .ref 112)], [], st_mm s95)) rfl ?_
          exact bi_Tww h rfl rfl ⟨rfl, rfl, rfl, rfl, rfl, trivial⟩
        · have h := h.2 hc
          refine bi_Tr 2 (s' := (1875, [(6, .int r94), (5, .int r93), (0, .ref 4999), (1, .ref 0), (2, .ref 77), (3, .ref 112), (4, .int y4)], [.int (0 : Int32), .ref 112], st_mm s95)) rfl ?_
          obtain ⟨hi, h⟩ := h
          refine bi_Tlal rfl rfl hi ?_
          refine bi_Tr 4 (s' := ((if (lg_cmp (st_gl s95 112 ((0 : Int32)).toNatClampNeg) (r94).toInt64) = 0 then 1885 else 1883), [(6, .int r94), (5, .int r93), (0, .ref 4999), (1, .ref 0), (2, .ref 77), (3, .ref 112), (4, .int y4)], [], st_mm s95)) rfl (bi_Tif (fun hc => ?_) (fun hc => ?_))
          · have h := h.1 hc
            refine bi_Tr 3 (s' := (23, [(4, .int (y4 + (6 : Int32))), (6, .int r94), (5, .int r93), (0, .ref 4999), (1, .ref 0), (2, .ref 77), (3, .ref 112)], [], st_mm s95)) rfl ?_
            exact bi_Tww h rfl rfl ⟨rfl, rfl, rfl, rfl, rfl, trivial⟩
          · have h := h.2 hc
            refine bi_Tr 1 (s' := (1884, [(6, .int r94), (5, .int r93), (0, .ref 4999), (1, .ref 0), (2, .ref 77), (3, .ref 112), (4, .int y4)], [.int (0 : Int32)], st_mm s95)) rfl ?_
            exact bi_Tv rfl rfl (Or.inl ⟨_, _, rfl, h⟩)
      · have h := h.2 hc
        refine bi_Tr 1 (s' := (1867, [(6, .int r94), (5, .int r93), (0, .ref 4999), (1, .ref 0), (2, .ref 77), (3, .ref 112), (4, .int y4)], [.int (0 : Int32)], st_mm s95)) rfl ?_
        exact bi_Tv rfl rfl (Or.inl ⟨_, _, rfl, h⟩)
    have h := h.2 hc
    have hn25 := lv_neT hc (a := 25) rfl
    by_cases hc : ((X.2 (y4).toNatClampNeg) &&& (31 : Int32)) = (26 : Int32)
    · rw [hc] at ht; cases ht
      have h := h.1 hc
      refine bi_Tr 5 (s' := (1894, [(0, .ref 4999), (1, .ref 0), (2, .ref 77), (3, .ref 112), (4, .int y4)], [.int (y4 + (1 : Int32)), .ref 4999, .ref 0], st_mm s)) rfl ?_
      obtain ⟨hi, h⟩ := h
      refine bi_Tsal rfl hi ?_
      refine bi_Tr 4 (s' := (1900, [(0, .ref 4999), (1, .ref 0), (2, .ref 77), (3, .ref 112), (4, .int y4)], [.int (y4 + (2 : Int32)), .ref 4999, .int (X.2 ((y4 + (1 : Int32))).toNatClampNeg), .ref 0], st_mm s)) rfl ?_
      obtain ⟨hi, h⟩ := h
      refine bi_Tsal rfl hi ?_
      refine bi_Tr 4 (s' := (1906, [(0, .ref 4999), (1, .ref 0), (2, .ref 77), (3, .ref 112), (4, .int y4)], [.int (y4 + (3 : Int32)), .ref 4999, .int (X.2 ((y4 + (2 : Int32))).toNatClampNeg), .int (X.2 ((y4 + (1 : Int32))).toNatClampNeg), .ref 0], st_mm s)) rfl ?_
      obtain ⟨hi, h⟩ := h
      refine bi_Tsal rfl hi ?_
      refine bi_Tr 1 (s' := (1908, [(0, .ref 4999), (1, .ref 0), (2, .ref 77), (3, .ref 112), (4, .int y4)], [.ref 112, .int (X.2 ((y4 + (3 : Int32))).toNatClampNeg), .int (X.2 ((y4 + (2 : Int32))).toNatClampNeg), .int (X.2 ((y4 + (1 : Int32))).toNatClampNeg), .ref 0], st_mm s)) rfl ?_
      refine bi_TcI (as := [.ref 0, .int (X.2 ((y4 + (1 : Int32))).toNatClampNeg), .int (X.2 ((y4 + (2 : Int32))).toNatClampNeg), .int (X.2 ((y4 + (3 : Int32))).toNatClampNeg), .ref 112]) rfl rfl ?_
      refine cI.mono h (fun r96 s96 h => ?_) (fun _ _ h => h.elim)
      refine bi_Tr 6 (s' := (1919, [(5, .int r96), (0, .ref 4999), (1, .ref 0), (2, .ref 77), (3, .ref 112), (4, .int y4)], [.int (y4 + (1 : Int32)), .ref 4999, .ref 77], st_mm s96)) rfl ?_
      obtain ⟨hi, h⟩ := h
      refine bi_Tsal rfl hi ?_
      refine bi_Tr 4 (s' := (1925, [(5, .int r96), (0, .ref 4999), (1, .ref 0), (2, .ref 77), (3, .ref 112), (4, .int y4)], [.int (y4 + (2 : Int32)), .ref 4999, .int (X.2 ((y4 + (1 : Int32))).toNatClampNeg), .ref 77], st_mm s96)) rfl ?_
      obtain ⟨hi, h⟩ := h
      refine bi_Tsal rfl hi ?_
      refine bi_Tr 4 (s' := (1931, [(5, .int r96), (0, .ref 4999), (1, .ref 0), (2, .ref 77), (3, .ref 112), (4, .int y4)], [.int (y4 + (3 : Int32)), .ref 4999, .int (X.2 ((y4 + (2 : Int32))).toNatClampNeg), .int (X.2 ((y4 + (1 : Int32))).toNatClampNeg), .ref 77], st_mm s96)) rfl ?_
      obtain ⟨hi, h⟩ := h
      refine bi_Tsal rfl hi ?_
      refine bi_TcI (as := [.ref 77, .int (X.2 ((y4 + (1 : Int32))).toNatClampNeg), .int (X.2 ((y4 + (2 : Int32))).toNatClampNeg), .int (X.2 ((y4 + (3 : Int32))).toNatClampNeg)]) rfl rfl ?_
      refine cI.mono h (fun r97 s97 h => ?_) (fun _ _ h => h.elim)
      refine bi_Tr 2 (s' := (1938, [(6, .int r97), (5, .int r96), (0, .ref 4999), (1, .ref 0), (2, .ref 77), (3, .ref 112), (4, .int y4)], [.ref 77], st_mm s97)) rfl ?_
      refine bi_TcI (as := [.ref 77]) rfl rfl ?_
      refine cI.mono h (fun r98 s98 h => ?_) (fun _ _ h => h.elim)
      refine bi_Tr 2 (s' := ((if r98 = r96 then 1948 else 1946), [(6, .int r97), (5, .int r96), (0, .ref 4999), (1, .ref 0), (2, .ref 77), (3, .ref 112), (4, .int y4)], [], st_mm s98)) rfl (bi_Tif (fun hc => ?_) (fun hc => ?_))
      · have h := h.1 hc
        refine bi_Tr 2 (s' := ((if ¬ r96 = 0 then 1965 else 1953), [(6, .int r97), (5, .int r96), (0, .ref 4999), (1, .ref 0), (2, .ref 77), (3, .ref 112), (4, .int y4)], [], st_mm s98)) rfl (bi_Tif (fun hc => ?_) (fun hc => ?_))
        · have h := h.1 hc
          refine bi_Tr 3 (s' := (23, [(4, .int (y4 + (6 : Int32))), (6, .int r97), (5, .int r96), (0, .ref 4999), (1, .ref 0), (2, .ref 77), (3, .ref 112)], [], st_mm s98)) rfl ?_
          exact bi_Tww h rfl rfl ⟨rfl, rfl, rfl, rfl, rfl, trivial⟩
        · have h := h.2 hc
          refine bi_Tr 2 (s' := (1955, [(6, .int r97), (5, .int r96), (0, .ref 4999), (1, .ref 0), (2, .ref 77), (3, .ref 112), (4, .int y4)], [.int (0 : Int32), .ref 112], st_mm s98)) rfl ?_
          obtain ⟨hi, h⟩ := h
          refine bi_Tlal rfl rfl hi ?_
          refine bi_Tr 4 (s' := ((if (lg_cmp (st_gl s98 112 ((0 : Int32)).toNatClampNeg) (r97).toInt64) = 0 then 1965 else 1963), [(6, .int r97), (5, .int r96), (0, .ref 4999), (1, .ref 0), (2, .ref 77), (3, .ref 112), (4, .int y4)], [], st_mm s98)) rfl (bi_Tif (fun hc => ?_) (fun hc => ?_))
          · have h := h.1 hc
            refine bi_Tr 3 (s' := (23, [(4, .int (y4 + (6 : Int32))), (6, .int r97), (5, .int r96), (0, .ref 4999), (1, .ref 0), (2, .ref 77), (3, .ref 112)], [], st_mm s98)) rfl ?_
            exact bi_Tww h rfl rfl ⟨rfl, rfl, rfl, rfl, rfl, trivial⟩
          · have h := h.2 hc
            refine bi_Tr 1 (s' := (1964, [(6, .int r97), (5, .int r96), (0, .ref 4999), (1, .ref 0), (2, .ref 77), (3, .ref 112), (4, .int y4)], [.int (0 : Int32)], st_mm s98)) rfl ?_
            exact bi_Tv rfl rfl (Or.inl ⟨_, _, rfl, h⟩)
      · have h := h.2 hc
        refine bi_Tr 1 (s' := (1947, [(6, .int r97), (5, .int r96), (0, .ref 4999), (1, .ref 0), (2, .ref 77), (3, .ref 112), (4, .int y4)], [.int (0 : Int32)], st_mm s98)) rfl ?_
        exact bi_Tv rfl rfl (Or.inl ⟨_, _, rfl, h⟩)
    have h := h.2 hc
    have hn26 := lv_neT hc (a := 26) rfl
    by_cases hc : ((X.2 (y4).toNatClampNeg) &&& (31 : Int32)) = (27 : Int32)
    · rw [hc] at ht; cases ht
      have h := h.1 hc
      refine bi_Tr 1 (s' := (1969, [(0, .ref 4999), (1, .ref 0), (2, .ref 77), (3, .ref 112), (4, .int y4)], [.ref 0], st_mm s)) rfl ?_
      refine bi_TcV (as := [.ref 0]) rfl rfl ?_
      refine cV.mono h (fun s99 h => ?_) (fun _ _ h => h.elim)
      refine bi_Tr 1 (s' := (1973, [(0, .ref 4999), (1, .ref 0), (2, .ref 77), (3, .ref 112), (4, .int y4)], [.ref 77], st_mm s99)) rfl ?_
      refine bi_TcV (as := [.ref 77]) rfl rfl ?_
      refine cV.mono h (fun s100 h => ?_) (fun _ _ h => h.elim)
      refine bi_Tr 3 (s' := (23, [(4, .int (y4 + (6 : Int32))), (0, .ref 4999), (1, .ref 0), (2, .ref 77), (3, .ref 112)], [], st_mm s100)) rfl ?_
      exact bi_Tww h rfl rfl ⟨rfl, rfl, rfl, rfl, rfl, trivial⟩
    have h := h.2 hc
    have hn27 := lv_neT hc (a := 27) rfl
    by_cases hc : ((X.2 (y4).toNatClampNeg) &&& (31 : Int32)) = (28 : Int32)
    · rw [hc] at ht; cases ht
      have h := h.1 hc
      refine bi_Tr 1 (s' := (1980, [(0, .ref 4999), (1, .ref 0), (2, .ref 77), (3, .ref 112), (4, .int y4)], [.ref 0], st_mm s)) rfl ?_
      refine bi_TcI (as := [.ref 0]) rfl rfl ?_
      refine cI.mono h (fun r101 s101 h => ?_) (fun _ _ h => h.elim)
      refine bi_Tr 1 (s' := (1984, [(0, .ref 4999), (1, .ref 0), (2, .ref 77), (3, .ref 112), (4, .int y4)], [.ref 77, .int r101], st_mm s101)) rfl ?_
      refine bi_TcI (as := [.ref 77]) rfl rfl ?_
      refine cI.mono h (fun r102 s102 h => ?_) (fun _ _ h => h.elim)
      refine bi_Tr 1 (s' := ((if r101 = r102 then 1992 else 1990), [(0, .ref 4999), (1, .ref 0), (2, .ref 77), (3, .ref 112), (4, .int y4)], [], st_mm s102)) rfl (bi_Tif (fun hc => ?_) (fun hc => ?_))
      · have h := h.1 hc
        refine bi_Tr 2 (s' := (23, [(4, .int (y4 + (6 : Int32))), (0, .ref 4999), (1, .ref 0), (2, .ref 77), (3, .ref 112)], [], st_mm s102)) rfl ?_
        exact bi_Tww h rfl rfl ⟨rfl, rfl, rfl, rfl, rfl, trivial⟩
      · have h := h.2 hc
        refine bi_Tr 1 (s' := (1991, [(0, .ref 4999), (1, .ref 0), (2, .ref 77), (3, .ref 112), (4, .int y4)], [.int (0 : Int32)], st_mm s102)) rfl ?_
        exact bi_Tv rfl rfl (Or.inl ⟨_, _, rfl, h⟩)
    have h := h.2 hc
    have hn28 := lv_neT hc (a := 28) rfl
    have ht : bi_tg 40 1952 = some t := bi_swd ht (fun h1 h2 => by omega)
    cases ht
    refine bi_Tr 2 (s' := (23, [(4, .int (y4 + (6 : Int32))), (0, .ref 4999), (1, .ref 0), (2, .ref 77), (3, .ref 112)], [], st_mm s)) rfl ?_
    exact bi_Tww h rfl rfl ⟨rfl, rfl, rfl, rfl, rfl, trivial⟩
