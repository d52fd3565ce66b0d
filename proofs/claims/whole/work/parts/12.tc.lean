def at_X2_sit_12 (X : bi_X) (d : Nat) (K : bi_St → Prop) (E : Nat → bi_St → Prop) (s : bi_St) (y3 : Int32) : Prop := bi_T X d 24 (12, [(0, .ref 57), (3, .int y3)], [], st_mm s) (st_RV K E)
theorem go_X2_sit_12 {X : bi_X} {d : Nat} {K : bi_St → Prop} {E : Nat → bi_St → Prop}  {s : bi_St} {y3 : Int32}  (h : (((6 : Int32) ≤ y3) → K s) ∧ (¬ ((6 : Int32) ≤ y3) → cI X d 25 [.ref 57, .int ((1 : Int32) <<< (y3 &&& 31))] s (fun (r1 : Int32) (s1 : bi_St) => bi_in y3 6 = true ∧ (at_X2_sit_12 X (d + 1) K E (st_p s1 58 (y3).toNatClampNeg r1) ((y3 + (1 : Int32))))) (fun _ _ => False))) : at_X2_sit_12 X (d + 1) K E s y3 := by
  show bi_T _ _ _ _ _
  refine bi_Tr 3 (s' := ((if (6 : Int32) ≤ y3 then 37 else 18), [(0, .ref 57), (3, .int y3)], [], st_mm s)) rfl (bi_Tif (fun hc => ?_) (fun hc => ?_))
  · have h := h.1 hc
    exact bi_Tv rfl rfl (Or.inl ⟨_, rfl, h⟩)
  · have h := h.2 hc
    refine bi_Tr 7 (s' := (27, [(0, .ref 57), (3, .int y3)], [.int ((1 : Int32) <<< (y3 &&& 31)), .ref 57, .int y3, .ref 58], st_mm s)) rfl ?_
    refine bi_TcI (as := [.ref 57, .int ((1 : Int32) <<< (y3 &&& 31))]) rfl rfl ?_
    refine cI.mono h (fun r1 s1 h => ?_) (fun _ _ h => h.elim)
    obtain ⟨hi, h⟩ := h
    refine bi_Tias rfl rfl hi ?_
    refine bi_Tr 2 (s' := (12, [(3, .int (y3 + (1 : Int32))), (0, .ref 57)], [], st_mm (st_p s1 58 (y3).toNatClampNeg r1))) rfl ?_
    exact bi_Tww h rfl rfl ⟨rfl, rfl, trivial⟩
/-- PolicyRows$Judge.sit(LPolicyRows$Book;LPolicyRows$State;)V -/
theorem en_X2_sit {X : bi_X} {d : Nat} {K : bi_St → Prop} {E : Nat → bi_St → Prop} {s : bi_St} {a1 : Nat} {a2 : Nat} (ha1 : st_isB a1) (ha2 : st_isS a2) (h : at_X2_sit_12 X (d + 1) K E (st_pp (st_pp s 7 a1) 8 a2) ((0 : Int32))) : cV X (d + 1) 24 [.ref 57, .ref a1, .ref a2] s K E := by
  show bi_T _ _ _ _ _
  refine bi_Tr 2 (s' := (2, [(0, .ref 57), (1, .ref a1), (2, .ref a2)], [.ref a1, .ref 57], st_mm s)) rfl ?_
  refine bi_Tpr rfl rfl rfl rfl rfl rfl ?_
  refine bi_Tr 2 (s' := (7, [(0, .ref 57), (1, .ref a1), (2, .ref a2)], [.ref a2, .ref 57], st_mm (st_pp s 7 a1))) rfl ?_
  refine bi_Tpr rfl rfl rfl rfl rfl rfl ?_
  refine bi_Tr 2 (s' := (12, [(3, .int (0 : Int32)), (0, .ref 57), (1, .ref a1), (2, .ref a2)], [], st_mm (st_pp (st_pp s 7 a1) 8 a2))) rfl ?_
  exact bi_Tww h rfl rfl ⟨rfl, rfl, trivial⟩
def at_X2_allHadBy_4 (X : bi_X) (d : Nat) (K : Int32 → bi_St → Prop) (E : Nat → bi_St → Prop) (s : bi_St) (y2 : Int32) (y3 : Int32) : Prop := bi_T X d 25 (4, [(0, .ref 57), (2, .int y2), (3, .int y3)], [], st_mm s) (st_RI K E)
def at_X2_allHadBy_13 (X : bi_X) (d : Nat) (K : Int32 → bi_St → Prop) (E : Nat → bi_St → Prop) (s : bi_St) (y2 : Int32) (y3 : Int32) (y4 : Int32) : Prop := bi_T X d 25 (13, [(0, .ref 57), (2, .int y2), (3, .int y3), (4, .int y4)], [], st_mm s) (st_RI K E)
theorem go_X2_allHadBy_4 {X : bi_X} {d : Nat} {K : Int32 → bi_St → Prop} {E : Nat → bi_St → Prop}  {s : bi_St} {y2 : Int32} {y3 : Int32}  (h : (((6 : Int32) ≤ y3) → K y2 s) ∧ (¬ ((6 : Int32) ≤ y3) → at_X2_allHadBy_13 X (d + 1) K E s (y2) (y3) ((0 : Int32)))) : at_X2_allHadBy_4 X (d + 1) K E s y2 y3 := by
  show bi_T _ _ _ _ _
  refine bi_Tr 3 (s' := ((if (6 : Int32) ≤ y3 then 59 else 10), [(0, .ref 57), (2, .int y2), (3, .int y3)], [], st_mm s)) rfl (bi_Tif (fun hc => ?_) (fun hc => ?_))
  · have h := h.1 hc
    refine bi_Tr 1 (s' := (60, [(0, .ref 57), (2, .int y2), (3, .int y3)], [.int y2], st_mm s)) rfl ?_
    exact bi_Tv rfl rfl (Or.inl ⟨_, _, rfl, h⟩)
  · have h := h.2 hc
    refine bi_Tr 2 (s' := (13, [(4, .int (0 : Int32)), (0, .ref 57), (2, .int y2), (3, .int y3)], [], st_mm s)) rfl ?_
    exact bi_Tww h rfl rfl ⟨rfl, rfl, rfl, rfl, trivial⟩
theorem go_X2_allHadBy_13 {X : bi_X} {d : Nat} {K : Int32 → bi_St → Prop} {E : Nat → bi_St → Prop}  {s : bi_St} {y2 : Int32} {y3 : Int32} {y4 : Int32}  (h : (((6 : Int32) ≤ y4) → at_X2_allHadBy_4 X (d + 1) K E s (y2) ((y3 + (1 : Int32)))) ∧ (¬ ((6 : Int32) ≤ y4) → cI X d 160 [.int y2, .int y4] s (fun (r1 : Int32) (s1 : bi_St) => ((¬ r1 = (1 : Int32)) → at_X2_allHadBy_13 X (d + 1) K E s1 ((y2 ||| (0 : Int32))) (y3) ((y4 + (1 : Int32)))) ∧ (¬ (¬ r1 = (1 : Int32)) → st_isS (st_gp s1 8) ∧ (bi_in y4 6 = true ∧ (at_X2_allHadBy_13 X (d + 1) K E s1 ((y2 ||| (st_g s1 ((st_gp s1 8) + 2) (y4).toNatClampNeg))) (y3) ((y4 + (1 : Int32))))))) (fun _ _ => False))) : at_X2_allHadBy_13 X (d + 1) K E s y2 y3 y4 := by
  show bi_T _ _ _ _ _
  refine bi_Tr 3 (s' := ((if (6 : Int32) ≤ y4 then 53 else 20), [(0, .ref 57), (2, .int y2), (3, .int y3), (4, .int y4)], [], st_mm s)) rfl (bi_Tif (fun hc => ?_) (fun hc => ?_))
  · have h := h.1 hc
    refine bi_Tr 2 (s' := (4, [(3, .int (y3 + (1 : Int32))), (0, .ref 57), (2, .int y2), (4, .int y4)], [], st_mm s)) rfl ?_
    exact bi_Tww h rfl rfl ⟨rfl, rfl, rfl, trivial⟩
  · have h := h.2 hc
    refine bi_Tr 3 (s' := (24, [(0, .ref 57), (2, .int y2), (3, .int y3), (4, .int y4)], [.int y4, .int y2, .int y2], st_mm s)) rfl ?_
    refine bi_TcI (as := [.int y2, .int y4]) rfl rfl ?_
    refine cI.mono h (fun r1 s1 h => ?_) (fun _ _ h => h.elim)
    refine bi_Tr 2 (s' := ((if ¬ r1 = (1 : Int32) then 44 else 31), [(0, .ref 57), (2, .int y2), (3, .int y3), (4, .int y4)], [.int y2], st_mm s1)) rfl (bi_Tif (fun hc => ?_) (fun hc => ?_))
    · have h := h.1 hc
      refine bi_Tr 5 (s' := (13, [(4, .int (y4 + (1 : Int32))), (2, .int (y2 ||| (0 : Int32))), (0, .ref 57), (3, .int y3)], [], st_mm s1)) rfl ?_
      exact bi_Tww h rfl rfl ⟨rfl, rfl, rfl, rfl, trivial⟩
    · have h := h.2 hc
      obtain ⟨h0q2_32, h⟩ := h
      refine bi_Tr 2 (s' := (35, [(0, .ref 57), (2, .int y2), (3, .int y3), (4, .int y4)], [.ref (st_gp s1 8), .int y2], st_mm s1)) rfl ?_
      refine bi_Tgr rfl rfl rfl (st_kS0 h0q2_32) (st_pS2 h0q2_32) ?_
      refine bi_Tr 1 (s' := (40, [(0, .ref 57), (2, .int y2), (3, .int y3), (4, .int y4)], [.int y4, .ref ((st_gp s1 8) + 2), .int y2], st_mm s1)) rfl ?_
      obtain ⟨hi, h⟩ := h
      refine bi_Tial rfl (by have := h0q2_32; simp only [st_isS] at this; rcases this with h | h | h | h <;> rw [h] <;> rfl) (st_kS2 h0q2_32) hi ?_
      refine bi_Tr 5 (s' := (13, [(4, .int (y4 + (1 : Int32))), (2, .int (y2 ||| (st_g s1 ((st_gp s1 8) + 2) (y4).toNatClampNeg))), (0, .ref 57), (3, .int y3)], [], st_mm s1)) rfl ?_
      exact bi_Tww h rfl rfl ⟨rfl, rfl, rfl, rfl, trivial⟩
/-- PolicyRows$Judge.allHadBy(I)I -/
theorem en_X2_allHadBy {X : bi_X} {d : Nat} {K : Int32 → bi_St → Prop} {E : Nat → bi_St → Prop} {s : bi_St} {x0 : Int32}  (h : at_X2_allHadBy_4 X (d + 1) K E s (x0) ((0 : Int32))) : cI X (d + 1) 25 [.ref 57, .int x0] s K E := by
  show bi_T _ _ _ _ _
  refine bi_Tr 4 (s' := (4, [(3, .int (0 : Int32)), (2, .int x0), (0, .ref 57), (1, .int x0)], [], st_mm s)) rfl ?_
  exact bi_Tww h rfl rfl ⟨rfl, rfl, rfl, trivial⟩
/-- PolicyRows$Judge.become(I)V -/
theorem en_X2_become {X : bi_X} {d : Nat} {K : bi_St → Prop} {E : Nat → bi_St → Prop} {s : bi_St} {x0 : Int32}  (h : ((x0 < 0) → K (st_p (st_p s 57 5 x0) 57 6 (0 : Int32))) ∧ (¬ (x0 < 0) → (((6 : Int32) ≤ x0) → K (st_p (st_p s 57 5 x0) 57 6 (0 : Int32))) ∧ (¬ ((6 : Int32) ≤ x0) → bi_in x0 6 = true ∧ (K (st_p (st_p s 57 5 x0) 57 6 (st_g (st_p s 57 5 x0) 58 (x0).toNatClampNeg)))))) : cV X d 26 [.ref 57, .int x0] s K E := by
  show bi_T _ _ _ _ _
  refine bi_Tr 6 (s' := ((if x0 < 0 then 25 else 10), [(0, .ref 57), (1, .int x0)], [.ref 57], st_mm (st_p s 57 5 x0))) rfl (bi_Tif (fun hc => ?_) (fun hc => ?_))
  · have h := h.1 hc
    refine bi_Tr 2 (s' := (29, [(0, .ref 57), (1, .int x0)], [], st_mm (st_p (st_p s 57 5 x0) 57 6 (0 : Int32)))) rfl ?_
    exact bi_Tv rfl rfl (Or.inl ⟨_, rfl, h⟩)
  · have h := h.2 hc
    refine bi_Tr 3 (s' := ((if (6 : Int32) ≤ x0 then 25 else 16), [(0, .ref 57), (1, .int x0)], [.ref 57], st_mm (st_p s 57 5 x0))) rfl (bi_Tif (fun hc => ?_) (fun hc => ?_))
    · have h := h.1 hc
      refine bi_Tr 2 (s' := (29, [(0, .ref 57), (1, .int x0)], [], st_mm (st_p (st_p s 57 5 x0) 57 6 (0 : Int32)))) rfl ?_
      exact bi_Tv rfl rfl (Or.inl ⟨_, rfl, h⟩)
    · have h := h.2 hc
      refine bi_Tr 3 (s' := (21, [(0, .ref 57), (1, .int x0)], [.int x0, .ref 58, .ref 57], st_mm (st_p s 57 5 x0))) rfl ?_
      obtain ⟨hi, h⟩ := h
      refine bi_Tial rfl rfl rfl hi ?_
      refine bi_Tr 2 (s' := (29, [(0, .ref 57), (1, .int x0)], [], st_mm (st_p (st_p s 57 5 x0) 57 6 (st_g (st_p s 57 5 x0) 58 (x0).toNatClampNeg)))) rfl ?_
      exact bi_Tv rfl rfl (Or.inl ⟨_, rfl, h⟩)
def at_X2_take_2 (X : bi_X) (d : Nat) (K : bi_St → Prop) (E : Nat → bi_St → Prop) (s : bi_St) (y1 : Int32) (y2 : Int32) : Prop := bi_T X d 27 (2, [(0, .ref 57), (1, .int y1), (2, .int y2)], [], st_mm s) (st_RV K E)
theorem go_X2_take_2 {X : bi_X} {d : Nat} {K : bi_St → Prop} {E : Nat → bi_St → Prop}  {s : bi_St} {y1 : Int32} {y2 : Int32}  (h : (((4 : Int32) ≤ y2) → K s) ∧ (¬ ((4 : Int32) ≤ y2) → st_isS (st_gp s 8) ∧ (cI X d 74 [.ref (st_gp s 8), .int y1, .int y2] s (fun (r1 : Int32) (s1 : bi_St) => bi_in y2 4 = true ∧ (at_X2_take_2 X (d + 1) K E (st_p s1 59 (y2).toNatClampNeg r1) (y1) ((y2 + (1 : Int32))))) (fun _ _ => False)))) : at_X2_take_2 X (d + 1) K E s y1 y2 := by
  show bi_T _ _ _ _ _
  refine bi_Tr 3 (s' := ((if (4 : Int32) ≤ y2 then 28 else 7), [(0, .ref 57), (1, .int y1), (2, .int y2)], [], st_mm s)) rfl (bi_Tif (fun hc => ?_) (fun hc => ?_))
  · have h := h.1 hc
    exact bi_Tv rfl rfl (Or.inl ⟨_, rfl, h⟩)
  · have h := h.2 hc
    obtain ⟨h0q1_13, h⟩ := h
    refine bi_Tr 7 (s' := (18, [(0, .ref 57), (1, .int y1), (2, .int y2)], [.int y2, .int y1, .ref (st_gp s 8), .int y2, .ref 59], st_mm s)) rfl ?_
    refine bi_TcI (as := [.ref (st_gp s 8), .int y1, .int y2]) (bi_TcO rfl rfl rfl (st_kS0 h0q1_13) rfl rfl) rfl ?_
    refine cI.mono h (fun r1 s1 h => ?_) (fun _ _ h => h.elim)
    obtain ⟨hi, h⟩ := h
    refine bi_Tias rfl rfl hi ?_
    refine bi_Tr 2 (s' := (2, [(2, .int (y2 + (1 : Int32))), (0, .ref 57), (1, .int y1)], [], st_mm (st_p s1 59 (y2).toNatClampNeg r1))) rfl ?_
    exact bi_Tww h rfl rfl ⟨rfl, rfl, rfl, trivial⟩
/-- PolicyRows$Judge.take(I)V -/
theorem en_X2_take {X : bi_X} {d : Nat} {K : bi_St → Prop} {E : Nat → bi_St → Prop} {s : bi_St} {x0 : Int32}  (h : at_X2_take_2 X (d + 1) K E s (x0) ((0 : Int32))) : cV X (d + 1) 27 [.ref 57, .int x0] s K E := by
  show bi_T _ _ _ _ _
  refine bi_Tr 2 (s' := (2, [(2, .int (0 : Int32)), (0, .ref 57), (1, .int x0)], [], st_mm s)) rfl ?_
  exact bi_Tww h rfl rfl ⟨rfl, rfl, rfl, trivial⟩
def at_X2_applying_5 (X : bi_X) (d : Nat) (K : Int32 → bi_St → Prop) (E : Nat → bi_St → Prop) (s : bi_St) (y1 : Int32) (y2 : Int32) (y3 : Int32) (y4 : Int32) : Prop := bi_T X d 28 (5, [(0, .ref 57), (1, .int y1), (2, .int y2), (3, .int y3), (4, .int y4)], [], st_mm s) (st_RI K E)
def at_X2_applying_60 (X : bi_X) (d : Nat) (K : Int32 → bi_St → Prop) (E : Nat → bi_St → Prop) (s : bi_St) (y1 : Int32) (y2 : Int32) (y3 : Int32) (y4 : Int32) (y6 : Int32) : Prop := bi_T X d 28 (60, [(0, .ref 57), (1, .int y1), (2, .int y2), (3, .int y3), (4, .int y4), (6, .int y6)], [], st_mm s) (st_RI K E)
def at_X2_applying_101 (X : bi_X) (d : Nat) (K : Int32 → bi_St → Prop) (E : Nat → bi_St → Prop) (s : bi_St) (y1 : Int32) (y2 : Int32) (y3 : Int32) (y4 : Int32) : Prop := bi_T X d 28 (101, [(0, .ref 57), (1, .int y1), (2, .int y2), (3, .int y3), (4, .int y4)], [], st_mm s) (st_RI K E)
def at_X2_applying_94 (X : bi_X) (d : Nat) (K : Int32 → bi_St → Prop) (E : Nat → bi_St → Prop) (s : bi_St) (y1 : Int32) (y2 : Int32) (y3 : Int32) (y4 : Int32) : Prop := bi_T X d 28 (94, [(0, .ref 57), (1, .int y1), (2, .int y2), (3, .int y3), (4, .int y4)], [], st_mm s) (st_RI K E)
theorem go_X2_applying_5 {X : bi_X} {d : Nat} {K : Int32 → bi_St → Prop} {E : Nat → bi_St → Prop}  {s : bi_St} {y1 : Int32} {y2 : Int32} {y3 : Int32} {y4 : Int32}  (h : st_isB (st_gp s 7) ∧ ((((st_g s (st_gp s 7) 2) ≤ y4) → K y3 s) ∧ (¬ ((st_g s (st_gp s 7) 2) ≤ y4) → st_isB (st_gp s 7) ∧ (bi_in y4 8 = true ∧ (st_isB (st_gp s 7) ∧ (bi_in y4 8 = true ∧ ((((st_g s ((st_gp s 7) + 1) (y4).toNatClampNeg) = (-1 : Int32)) → at_X2_applying_60 X (d + 1) K E s (y1) (y2) (y3) (y4) ((st_g s ((st_gp s 7) + 2) (y4).toNatClampNeg))) ∧ (¬ ((st_g s ((st_gp s 7) + 1) (y4).toNatClampNeg) = (-1 : Int32)) → cI X d 160 [.int (st_g s 57 6), .int (st_g s ((st_gp s 7) + 1) (y4).toNatClampNeg)] s (fun (r1 : Int32) (s1 : bi_St) => ((¬ r1 = (1 : Int32)) → cI X d 160 [.int y1, .int y4] s1 (fun (r2 : Int32) (s2 : bi_St) => ((¬ r2 = (1 : Int32)) → at_X2_applying_101 X (d + 1) K E s2 (y1) (y2) (y3) (y4)) ∧ (¬ (¬ r2 = (1 : Int32)) → (((0 : Int32) = 0) → at_X2_applying_101 X (d + 1) K E s2 (y1) (y2) (y3) (y4)) ∧ (¬ ((0 : Int32) = 0) → (((st_g s ((st_gp s 7) + 2) (y4).toNatClampNeg) = y2) → at_X2_applying_94 X (d + 1) K E s2 (y1) (y2) (y3) (y4)) ∧ (¬ ((st_g s ((st_gp s 7) + 2) (y4).toNatClampNeg) = y2) → ((¬ (st_g s ((st_gp s 7) + 2) (y4).toNatClampNeg) = (4 : Int32)) → at_X2_applying_101 X (d + 1) K E s2 (y1) (y2) (y3) (y4)) ∧ (¬ (¬ (st_g s ((st_gp s 7) + 2) (y4).toNatClampNeg) = (4 : Int32)) → at_X2_applying_94 X (d + 1) K E s2 (y1) (y2) (y3) (y4)))))) (fun _ _ => False)) ∧ (¬ (¬ r1 = (1 : Int32)) → at_X2_applying_60 X (d + 1) K E s1 (y1) (y2) (y3) (y4) ((st_g s ((st_gp s 7) + 2) (y4).toNatClampNeg)))) (fun _ _ => False))))))))) : at_X2_applying_5 X (d + 1) K E s y1 y2 y3 y4 := by
  show bi_T _ _ _ _ _
  obtain ⟨h0q0_8, h⟩ := h
  refine bi_Tr 3 (s' := (11, [(0, .ref 57), (1, .int y1), (2, .int y2), (3, .int y3), (4, .int y4)], [.ref (st_gp s 7), .int y4], st_mm s)) rfl ?_
  refine bi_Tgi (o := 0) rfl rfl rfl (st_kB0 h0q0_8) ?_
  refine bi_Tr 1 (s' := ((if (st_g s (st_gp s 7) 2) ≤ y4 then 107 else 17), [(0, .ref 57), (1, .int y1), (2, .int y2), (3, .int y3), (4, .int y4)], [], st_mm s)) rfl (bi_Tif (fun hc => ?_) (fun hc => ?_))
  · have h := h.1 hc
    refine bi_Tr 1 (s' := (108, [(0, .ref 57), (1, .int y1), (2, .int y2), (3, .int y3), (4, .int y4)], [.int y3], st_mm s)) rfl ?_
    exact bi_Tv rfl rfl (Or.inl ⟨_, _, rfl, h⟩)
  · have h := h.2 hc
    obtain ⟨h0q1_18, h⟩ := h
    refine bi_Tr 2 (s' := (21, [(0, .ref 57), (1, .int y1), (2, .int y2), (3, .int y3), (4, .int y4)], [.ref (st_gp s 7)], st_mm s)) rfl ?_
    refine bi_Tgr rfl rfl rfl (st_kB0 h0q1_18) (st_pB4 h0q1_18) ?_
    refine bi_Tr 1 (s' := (26, [(0, .ref 57), (1, .int y1), (2, .int y2), (3, .int y3), (4, .int y4)], [.int y4, .ref ((st_gp s 7) + 1)], st_mm s)) rfl ?_
    obtain ⟨hi, h⟩ := h
    refine bi_Tial rfl (by have := h0q1_18; simp only [st_isB] at this; rcases this with h | h <;> rw [h] <;> rfl) (st_kB1 h0q1_18) hi ?_
    obtain ⟨h43q1_30, h⟩ := h
    refine bi_Tr 3 (s' := (33, [(5, .int (st_g s ((st_gp s 7) + 1) (y4).toNatClampNeg)), (0, .ref 57), (1, .int y1), (2, .int y2), (3, .int y3), (4, .int y4)], [.ref (st_gp s 7)], st_mm s)) rfl ?_
    refine bi_Tgr rfl rfl rfl (st_kB0 h43q1_30) (st_pB5 h43q1_30) ?_
    refine bi_Tr 1 (s' := (38, [(5, .int (st_g s ((st_gp s 7) + 1) (y4).toNatClampNeg)), (0, .ref 57), (1, .int y1), (2, .int y2), (3, .int y3), (4, .int y4)], [.int y4, .ref ((st_gp s 7) + 2)], st_mm s)) rfl ?_
    obtain ⟨hi, h⟩ := h
    refine bi_Tial rfl (by have := h43q1_30; simp only [st_isB] at this; rcases this with h | h <;> rw [h] <;> rfl) (st_kB2 h43q1_30) hi ?_
    refine bi_Tr 4 (s' := ((if (st_g s ((st_gp s 7) + 1) (y4).toNatClampNeg) = (-1 : Int32) then 60 else 47), [(6, .int (st_g s ((st_gp s 7) + 2) (y4).toNatClampNeg)), (5, .int (st_g s ((st_gp s 7) + 1) (y4).toNatClampNeg)), (0, .ref 57), (1, .int y1), (2, .int y2), (3, .int y3), (4, .int y4)], [], st_mm s)) rfl (bi_Tif (fun hc => ?_) (fun hc => ?_))
    · have h := h.1 hc
      exact bi_Tww h rfl rfl ⟨rfl, rfl, rfl, rfl, rfl, rfl, trivial⟩
    · have h := h.2 hc
      refine bi_Tr 3 (s' := (53, [(6, .int (st_g s ((st_gp s 7) + 2) (y4).toNatClampNeg)), (5, .int (st_g s ((st_gp s 7) + 1) (y4).toNatClampNeg)), (0, .ref 57), (1, .int y1), (2, .int y2), (3, .int y3), (4, .int y4)], [.int (st_g s ((st_gp s 7) + 1) (y4).toNatClampNeg), .int (st_g s 57 6)], st_mm s)) rfl ?_
      refine bi_TcI (as := [.int (st_g s 57 6), .int (st_g s ((st_gp s 7) + 1) (y4).toNatClampNeg)]) rfl rfl ?_
      refine cI.mono h (fun r1 s1 h => ?_) (fun _ _ h => h.elim)
      refine bi_Tr 2 (s' := ((if ¬ r1 = (1 : Int32) then 64 else 60), [(6, .int (st_g s ((st_gp s 7) + 2) (y4).toNatClampNeg)), (5, .int (st_g s ((st_gp s 7) + 1) (y4).toNatClampNeg)), (0, .ref 57), (1, .int y1), (2, .int y2), (3, .int y3), (4, .int y4)], [], st_mm s1)) rfl (bi_Tif (fun hc => ?_) (fun hc => ?_))
      · have h := h.1 hc
        refine bi_Tr 4 (s' := (70, [(7, .int (0 : Int32)), (6, .int (st_g s ((st_gp s 7) + 2) (y4).toNatClampNeg)), (5, .int (st_g s ((st_gp s 7) + 1) (y4).toNatClampNeg)), (0, .ref 57), (1, .int y1), (2, .int y2), (3, .int y3), (4, .int y4)], [.int y4, .int y1], st_mm s1)) rfl ?_
        refine bi_TcI (as := [.int y1, .int y4]) rfl rfl ?_
        refine cI.mono h (fun r2 s2 h => ?_) (fun _ _ h => h.elim)
        refine bi_Tr 2 (s' := ((if ¬ r2 = (1 : Int32) then 101 else 77), [(7, .int (0 : Int32)), (6, .int (st_g s ((st_gp s 7) + 2) (y4).toNatClampNeg)), (5, .int (st_g s ((st_gp s 7) + 1) (y4).toNatClampNeg)), (0, .ref 57), (1, .int y1), (2, .int y2), (3, .int y3), (4, .int y4)], [], st_mm s2)) rfl (bi_Tif (fun hc => ?_) (fun hc => ?_))
        · have h := h.1 hc
          exact bi_Tww h rfl rfl ⟨rfl, rfl, rfl, rfl, rfl, trivial⟩
        · have h := h.2 hc
          refine bi_Tr 2 (s' := ((if (0 : Int32) = 0 then 101 else 82), [(7, .int (0 : Int32)), (6, .int (st_g s ((st_gp s 7) + 2) (y4).toNatClampNeg)), (5, .int (st_g s ((st_gp s 7) + 1) (y4).toNatClampNeg)), (0, .ref 57), (1, .int y1), (2, .int y2), (3, .int y3), (4, .int y4)], [], st_mm s2)) rfl (bi_Tif (fun hc => ?_) (fun hc => ?_))
          · have h := h.1 hc
            exact bi_Tww h rfl rfl ⟨rfl, rfl, rfl, rfl, rfl, trivial⟩
          · have h := h.2 hc
            refine bi_Tr 3 (s' := ((if (st_g s ((st_gp s 7) + 2) (y4).toNatClampNeg) = y2 then 94 else 88), [(7, .int (0 : Int32)), (6, .int (st_g s ((st_gp s 7) + 2) (y4).toNatClampNeg)), (5, .int (st_g s ((st_gp s 7) + 1) (y4).toNatClampNeg)), (0, .ref 57), (1, .int y1), (2, .int y2), (3, .int y3), (4, .int y4)], [], st_mm s2)) rfl (bi_Tif (fun hc => ?_) (fun hc => ?_))
            · have h := h.1 hc
              exact bi_Tww h rfl rfl ⟨rfl, rfl, rfl, rfl, rfl, trivial⟩
            · have h := h.2 hc
              refine bi_Tr 3 (s' := ((if ¬ (st_g s ((st_gp s 7) + 2) (y4).toNatClampNeg) = (4 : Int32) then 101 else 94), [(7, .int (0 : Int32)), (6, .int (st_g s ((st_gp s 7) + 2) (y4).toNatClampNeg)), (5, .int (st_g s ((st_gp s 7) + 1) (y4).toNatClampNeg)), (0, .ref 57), (1, .int y1), (2, .int y2), (3, .int y3), (4, .int y4)], [], st_mm s2)) rfl (bi_Tif (fun hc => ?_) (fun hc => ?_))
              · have h := h.1 hc
                exact bi_Tww h rfl rfl ⟨rfl, rfl, rfl, rfl, rfl, trivial⟩
              · have h := h.2 hc
                exact bi_Tww h rfl rfl ⟨rfl, rfl, rfl, rfl, rfl, trivial⟩
      · have h := h.2 hc
        exact bi_Tww h rfl rfl ⟨rfl, rfl, rfl, rfl, rfl, rfl, trivial⟩
theorem go_X2_applying_60 {X : bi_X} {d : Nat} {K : Int32 → bi_St → Prop} {E : Nat → bi_St → Prop}  {s : bi_St} {y1 : Int32} {y2 : Int32} {y3 : Int32} {y4 : Int32} {y6 : Int32}  (h : cI X d 160 [.int y1, .int y4] s (fun (r3 : Int32) (s3 : bi_St) => ((¬ r3 = (1 : Int32)) → at_X2_applying_101 X (d + 1) K E s3 (y1) (y2) (y3) (y4)) ∧ (¬ (¬ r3 = (1 : Int32)) → (((1 : Int32) = 0) → at_X2_applying_101 X (d + 1) K E s3 (y1) (y2) (y3) (y4)) ∧ (¬ ((1 : Int32) = 0) → ((y6 = y2) → at_X2_applying_94 X (d + 1) K E s3 (y1) (y2) (y3) (y4)) ∧ (¬ (y6 = y2) → ((¬ y6 = (4 : Int32)) → at_X2_applying_101 X (d + 1) K E s3 (y1) (y2) (y3) (y4)) ∧ (¬ (¬ y6 = (4 : Int32)) → at_X2_applying_94 X (d + 1) K E s3 (y1) (y2) (y3) (y4)))))) (fun _ _ => False)) : at_X2_applying_60 X (d + 1) K E s y1 y2 y3 y4 y6 := by
  show bi_T _ _ _ _ _
  refine bi_Tr 5 (s' := (70, [(7, .int (1 : Int32)), (0, .ref 57), (1, .int y1), (2, .int y2), (3, .int y3), (4, .int y4), (6, .int y6)], [.int y4, .int y1], st_mm s)) rfl ?_
  refine bi_TcI (as := [.int y1, .int y4]) rfl rfl ?_
  refine cI.mono h (fun r3 s3 h => ?_) (fun _ _ h => h.elim)
  refine bi_Tr 2 (s' := ((if ¬ r3 = (1 : Int32) then 101 else 77), [(7, .int (1 : Int32)), (0, .ref 57), (1, .int y1), (2, .int y2), (3, .int y3), (4, .int y4), (6, .int y6)], [], st_mm s3)) rfl (bi_Tif (fun hc => ?_) (fun hc => ?_))
  · have h := h.1 hc
    exact bi_Tww h rfl rfl ⟨rfl, rfl, rfl, rfl, rfl, trivial⟩
  · have h := h.2 hc
    refine bi_Tr 2 (s' := ((if (1 : Int32) = 0 then 101 else 82), [(7, .int (1 : Int32)), (0, .ref 57), (1, .int y1), (2, .int y2), (3, .int y3), (4, .int y4), (6, .int y6)], [], st_mm s3)) rfl (bi_Tif (fun hc => ?_) (fun hc => ?_))
    · have h := h.1 hc
      exact bi_Tww h rfl rfl ⟨rfl, rfl, rfl, rfl, rfl, trivial⟩
    · have h := h.2 hc
      refine bi_Tr 3 (s' := ((if y6 = y2 then 94 else 88), [(7, .int (1 : Int32)), (0, .ref 57), (1, .int y1), (2, .int y2), (3, .int y3), (4, .int y4), (6, .int y6)], [], st_mm s3)) rfl (bi_Tif (fun hc => ?_) (fun hc => ?_))
      · have h := h.1 hc
        exact bi_Tww h rfl rfl ⟨rfl, rfl, rfl, rfl, rfl, trivial⟩
      · have h := h.2 hc
        refine bi_Tr 3 (s' := ((if ¬ y6 = (4 : Int32) then 101 else 94), [(7, .int (1 : Int32)), (0, .ref 57), (1, .int y1), (2, .int y2), (3, .int y3), (4, .int y4), (6, .int y6)], [], st_mm s3)) rfl (bi_Tif (fun hc => ?_) (fun hc => ?_))
        · have h := h.1 hc
          exact bi_Tww h rfl rfl ⟨rfl, rfl, rfl, rfl, rfl, trivial⟩
        · have h := h.2 hc
          exact bi_Tww h rfl rfl ⟨rfl, rfl, rfl, rfl, rfl, trivial⟩
theorem go_X2_applying_101 {X : bi_X} {d : Nat} {K : Int32 → bi_St → Prop} {E : Nat → bi_St → Prop}  {s : bi_St} {y1 : Int32} {y2 : Int32} {y3 : Int32} {y4 : Int32}  (h : at_X2_applying_5 X (d + 1) K E s (y1) (y2) (y3) ((y4 + (1 : Int32)))) : at_X2_applying_101 X (d + 1) K E s y1 y2 y3 y4 := by
  show bi_T _ _ _ _ _
  refine bi_Tr 2 (s' := (5, [(4, .int (y4 + (1 : Int32))), (0, .ref 57), (1, .int y1), (2, .int y2), (3, .int y3)], [], st_mm s)) rfl ?_
  exact bi_Tww h rfl rfl ⟨rfl, rfl, rfl, rfl, rfl, trivial⟩
theorem go_X2_applying_94 {X : bi_X} {d : Nat} {K : Int32 → bi_St → Prop} {E : Nat → bi_St → Prop}  {s : bi_St} {y1 : Int32} {y2 : Int32} {y3 : Int32} {y4 : Int32}  (h : at_X2_applying_101 X (d + 1) K E s (y1) (y2) ((y3 ||| ((1 : Int32) <<< (y4 &&& 31)))) (y4)) : at_X2_applying_94 X (d + 1) K E s y1 y2 y3 y4 := by
  show bi_T _ _ _ _ _
  refine bi_Tr 6 (s' := (101, [(3, .int (y3 ||| ((1 : Int32) <<< (y4 &&& 31)))), (0, .ref 57), (1, .int y1), (2, .int y2), (4, .int y4)], [], st_mm s)) rfl ?_
  exact bi_Tww h rfl rfl ⟨rfl, rfl, rfl, rfl, rfl, trivial⟩
/-- PolicyRows$Judge.applying(II)I -/
theorem en_X2_applying {X : bi_X} {d : Nat} {K : Int32 → bi_St → Prop} {E : Nat → bi_St → Prop} {s : bi_St} {x0 : Int32} {x1 : Int32}  (h : at_X2_applying_5 X (d + 1) K E s (x0) (x1) ((0 : Int32)) ((0 : Int32))) : cI X (d + 1) 28 [.ref 57, .int x0, .int x1] s K E := by
  show bi_T _ _ _ _ _
  refine bi_Tr 4 (s' := (5, [(4, .int (0 : Int32)), (3, .int (0 : Int32)), (0, .ref 57), (1, .int x0), (2, .int x1)], [], st_mm s)) rfl ?_
  exact bi_Tww h rfl rfl ⟨rfl, rfl, rfl, rfl, rfl, trivial⟩
def at_X2_holding_5 (X : bi_X) (d : Nat) (K : Int32 → bi_St → Prop) (E : Nat → bi_St → Prop) (s : bi_St) (y1 : Int32) (y2 : Int32) (y3 : Int32) (y4 : Int32) : Prop := bi_T X d 29 (5, [(0, .ref 57), (1, .int y1), (2, .int y2), (3, .int y3), (4, .int y4)], [], st_mm s) (st_RI K E)
def at_X2_holding_60 (X : bi_X) (d : Nat) (K : Int32 → bi_St → Prop) (E : Nat → bi_St → Prop) (s : bi_St) (y1 : Int32) (y2 : Int32) (y3 : Int32) (y4 : Int32) : Prop := bi_T X d 29 (60, [(0, .ref 57), (1, .int y1), (2, .int y2), (3, .int y3), (4, .int y4)], [], st_mm s) (st_RI K E)
def at_X2_holding_105 (X : bi_X) (d : Nat) (K : Int32 → bi_St → Prop) (E : Nat → bi_St → Prop) (s : bi_St) (y1 : Int32) (y2 : Int32) (y3 : Int32) (y4 : Int32) : Prop := bi_T X d 29 (105, [(0, .ref 57), (1, .int y1), (2, .int y2), (3, .int y3), (4, .int y4)], [], st_mm s) (st_RI K E)
theorem go_X2_holding_5 {X : bi_X} {d : Nat} {K : Int32 → bi_St → Prop} {E : Nat → bi_St → Prop}  {s : bi_St} {y1 : Int32} {y2 : Int32} {y3 : Int32} {y4 : Int32}  (h : st_isB (st_gp s 7) ∧ ((((st_g s (st_gp s 7) 2) ≤ y4) → K y3 s) ∧ (¬ ((st_g s (st_gp s 7) 2) ≤ y4) → st_isB (st_gp s 7) ∧ (bi_in y4 8 = true ∧ ((((st_g s ((st_gp s 7) + 4) (y4).toNatClampNeg) = (-1 : Int32)) → ((y2 = 0) → at_X2_holding_60 X (d + 1) K E s (y1) (y2) (y3) (y4)) ∧ (¬ (y2 = 0) → (((0 : Int32) = 0) → at_X2_holding_60 X (d + 1) K E s (y1) (y2) (y3) (y4)) ∧ (¬ ((0 : Int32) = 0) → st_isB (st_gp s 7) ∧ (bi_in y4 8 = true ∧ (cI X d 160 [.int y1, .int y4] s (fun (r1 : Int32) (s1 : bi_St) => ((¬ r1 = (1 : Int32)) → at_X2_holding_105 X (d + 1) K E s1 (y1) (y2) (y3) (y4)) ∧ (¬ (¬ r1 = (1 : Int32)) → st_isB (st_gp s1 7) ∧ (cI X d 34 [.ref 57, .ref ((st_gp s1 7) + 8), .int (st_g s ((st_gp s 7) + 4) (y4).toNatClampNeg)] s1 (fun (r2 : Int32) (s2 : bi_St) => ((r2 = 0) → at_X2_holding_105 X (d + 1) K E s2 (y1) (y2) (y3) (y4)) ∧ (¬ (r2 = 0) → at_X2_holding_105 X (d + 1) K E s2 (y1) (y2) ((y3 ||| ((1 : Int32) <<< (y4 &&& 31)))) (y4))) (fun _ _ => False)))) (fun _ _ => False)))))) ∧ (¬ ((st_g s ((st_gp s 7) + 4) (y4).toNatClampNeg) = (-1 : Int32)) → ((y2 = 0) → at_X2_holding_60 X (d + 1) K E s (y1) (y2) (y3) (y4)) ∧ (¬ (y2 = 0) → (((1 : Int32) = 0) → at_X2_holding_60 X (d + 1) K E s (y1) (y2) (y3) (y4)) ∧ (¬ ((1 : Int32) = 0) → st_isB (st_gp s 7) ∧ (bi_in y4 8 = true ∧ (cI X d 160 [.int y1, .int y4] s (fun (r3 : Int32) (s3 : bi_St) => ((¬ r3 = (1 : Int32)) → at_X2_holding_105 X (d + 1) K E s3 (y1) (y2) (y3) (y4)) ∧ (¬ (¬ r3 = (1 : Int32)) → st_isB (st_gp s3 7) ∧ (cI X d 34 [.ref 57, .ref ((st_gp s3 7) + 8), .int (st_g s ((st_gp s 7) + 4) (y4).toNatClampNeg)] s3 (fun (r4 : Int32) (s4 : bi_St) => ((r4 = 0) → at_X2_holding_105 X (d + 1) K E s4 (y1) (y2) (y3) (y4)) ∧ (¬ (r4 = 0) → at_X2_holding_105 X (d + 1) K E s4 (y1) (y2) ((y3 ||| ((1 : Int32) <<< (y4 &&& 31)))) (y4))) (fun _ _ => False)))) (fun _ _ => False))))))))))) : at_X2_holding_5 X (d + 1) K E s y1 y2 y3 y4 := by
  show bi_T _ _ _ _ _
  obtain ⟨h0q0_8, h⟩ := h
  refine bi_Tr 3 (s' := (11, [(0, .ref 57), (1, .int y1), (2, .int y2), (3, .int y3), (4, .int y4)], [.ref (st_gp s 7), .int y4], st_mm s)) rfl ?_
  refine bi_Tgi (o := 0) rfl rfl rfl (st_kB0 h0q0_8) ?_
  refine bi_Tr 1 (s' := ((if (st_g s (st_gp s 7) 2) ≤ y4 then 111 else 17), [(0, .ref 57), (1, .int y1), (2, .int y2), (3, .int y3), (4, .int y4)], [], st_mm s)) rfl (bi_Tif (fun hc => ?_) (fun hc => ?_))
  · have h := h.1 hc
    refine bi_Tr 1 (s' := (112, [(0, .ref 57), (1, .int y1), (2, .int y2), (3, .int y3), (4, .int y4)], [.int y3], st_mm s)) rfl ?_
    exact bi_Tv rfl rfl (Or.inl ⟨_, _, rfl, h⟩)
  · have h := h.2 hc
    obtain ⟨h0q1_18, h⟩ := h
    refine bi_Tr 2 (s' := (21, [(0, .ref 57), (1, .int y1), (2, .int y2), (3, .int y3), (4, .int y4)], [.ref (st_gp s 7)], st_mm s)) rfl ?_
    refine bi_Tgr rfl rfl rfl (st_kB0 h0q1_18) (st_pB7 h0q1_18) ?_
    refine bi_Tr 1 (s' := (26, [(0, .ref 57), (1, .int y1), (2, .int y2), (3, .int y3), (4, .int y4)], [.int y4, .ref ((st_gp s 7) + 4)], st_mm s)) rfl ?_
    obtain ⟨hi, h⟩ := h
    refine bi_Tial rfl (by have := h0q1_18; simp only [st_isB] at this; rcases this with h | h <;> rw [h] <;> rfl) (st_kB4 h0q1_18) hi ?_
    refine bi_Tr 2 (s' := ((if (st_g s ((st_gp s 7) + 4) (y4).toNatClampNeg) = (-1 : Int32) then 35 else 31), [(0, .ref 57), (1, .int y1), (2, .int y2), (3, .int y3), (4, .int y4)], [], st_mm s)) rfl (bi_Tif (fun hc => ?_) (fun hc => ?_))
    · have h := h.1 hc
      refine bi_Tr 4 (s' := ((if y2 = 0 then 60 else 42), [(5, .int (0 : Int32)), (0, .ref 57), (1, .int y1), (2, .int y2), (3, .int y3), (4, .int y4)], [], st_mm s)) rfl (bi_Tif (fun hc => ?_) (fun hc => ?_))
      · have h := h.1 hc
        exact bi_Tww h rfl rfl ⟨rfl, rfl, rfl, rfl, rfl, trivial⟩
      · have h := h.2 hc
        refine bi_Tr 2 (s' := ((if (0 : Int32) = 0 then 60 else 47), [(5, .int (0 : Int32)), (0, .ref 57), (1, .int y1), (2, .int y2), (3, .int y3), (4, .int y4)], [], st_mm s)) rfl (bi_Tif (fun hc => ?_) (fun hc => ?_))
        · have h := h.1 hc
          exact bi_Tww h rfl rfl ⟨rfl, rfl, rfl, rfl, rfl, trivial⟩
        · have h := h.2 hc
          obtain ⟨h0q4_48, h⟩ := h
          refine bi_Tr 2 (s' := (51, [(5, .int (0 : Int32)), (0, .ref 57), (1, .int y1), (2, .int y2), (3, .int y3), (4, .int y4)], [.ref (st_gp s 7)], st_mm s)) rfl ?_
          refine bi_Tgr rfl rfl rfl (st_kB0 h0q4_48) (st_pB7 h0q4_48) ?_
          refine bi_Tr 1 (s' := (56, [(5, .int (0 : Int32)), (0, .ref 57), (1, .int y1), (2, .int y2), (3, .int y3), (4, .int y4)], [.int y4, .ref ((st_gp s 7) + 4)], st_mm s)) rfl ?_
          obtain ⟨hi, h⟩ := h
          refine bi_Tial rfl (by have := h0q4_48; simp only [st_isB] at this; rcases this with h | h <;> rw [h] <;> rfl) (st_kB4 h0q4_48) hi ?_
          refine bi_Tr 4 (s' := (75, [(6, .int (st_g s ((st_gp s 7) + 4) (y4).toNatClampNeg)), (5, .int (0 : Int32)), (0, .ref 57), (1, .int y1), (2, .int y2), (3, .int y3), (4, .int y4)], [.int y4, .int y1], st_mm s)) rfl ?_
          refine bi_TcI (as := [.int y1, .int y4]) rfl rfl ?_
          refine cI.mono h (fun r1 s1 h => ?_) (fun _ _ h => h.elim)
          refine bi_Tr 2 (s' := ((if ¬ r1 = (1 : Int32) then 105 else 82), [(6, .int (st_g s ((st_gp s 7) + 4) (y4).toNatClampNeg)), (5, .int (0 : Int32)), (0, .ref 57), (1, .int y1), (2, .int y2), (3, .int y3), (4, .int y4)], [], st_mm s1)) rfl (bi_Tif (fun hc => ?_) (fun hc => ?_))
          · have h := h.1 hc
            exact bi_Tww h rfl rfl ⟨rfl, rfl, rfl, rfl, rfl, trivial⟩
          · have h := h.2 hc
            obtain ⟨h0q5_84, h⟩ := h
            refine bi_Tr 3 (s' := (87, [(6, .int (st_g s ((st_gp s 7) + 4) (y4).toNatClampNeg)), (5, .int (0 : Int32)), (0, .ref 57), (1, .int y1), (2, .int y2), (3, .int y3), (4, .int y4)], [.ref (st_gp s1 7), .ref 57], st_mm s1)) rfl ?_
            refine bi_Tgr rfl rfl rfl (st_kB0 h0q5_84) (st_pB13 h0q5_84) ?_
            refine bi_Tr 1 (s' := (92, [(6, .int (st_g s ((st_gp s 7) + 4) (y4).toNatClampNeg)), (5, .int (0 : Int32)), (0, .ref 57), (1, .int y1), (2, .int y2), (3, .int y3), (4, .int y4)], [.int (st_g s ((st_gp s 7) + 4) (y4).toNatClampNeg), .ref ((st_gp s1 7) + 8), .ref 57], st_mm s1)) rfl ?_
            refine bi_TcI (as := [.ref 57, .ref ((st_gp s1 7) + 8), .int (st_g s ((st_gp s 7) + 4) (y4).toNatClampNeg)]) rfl rfl ?_
            refine cI.mono h (fun r2 s2 h => ?_) (fun _ _ h => h.elim)
            refine bi_Tr 1 (s' := ((if r2 = 0 then 105 else 98), [(6, .int (st_g s ((st_gp s 7) + 4) (y4).toNatClampNeg)), (5, .int (0 : Int32)), (0, .ref 57), (1, .int y1), (2, .int y2), (3, .int y3), (4, .int y4)], [], st_mm s2)) rfl (bi_Tif (fun hc => ?_) (fun hc => ?_))
            · have h := h.1 hc
              exact bi_Tww h rfl rfl ⟨rfl, rfl, rfl, rfl, rfl, trivial⟩
            · have h := h.2 hc
              refine bi_Tr 6 (s' := (105, [(3, .int (y3 ||| ((1 : Int32) <<< (y4 &&& 31)))), (6, .int (st_g s ((st_gp s 7) + 4) (y4).toNatClampNeg)), (5, .int (0 : Int32)), (0, .ref 57), (1, .int y1), (2, .int y2), (4, .int y4)], [], st_mm s2)) rfl ?_
              exact bi_Tww h rfl rfl ⟨rfl, rfl, rfl, rfl, rfl, trivial⟩
    · have h := h.2 hc
      refine bi_Tr 5 (s' := ((if y2 = 0 then 60 else 42), [(5, .int (1 : Int32)), (0, .ref 57), (1, .int y1), (2, .int y2), (3, .int y3), (4, .int y4)], [], st_mm s)) rfl (bi_Tif (fun hc => ?_) (fun hc => ?_))
      · have h := h.1 hc
        exact bi_Tww h rfl rfl ⟨rfl, rfl, rfl, rfl, rfl, trivial⟩
      · have h := h.2 hc
        refine bi_Tr 2 (s' := ((if (1 : Int32) = 0 then 60 else 47), [(5, .int (1 : Int32)), (0, .ref 57), (1, .int y1), (2, .int y2), (3, .int y3), (4, .int y4)], [], st_mm s)) rfl (bi_Tif (fun hc => ?_) (fun hc => ?_))
        · have h := h.1 hc
          exact bi_Tww h rfl rfl ⟨rfl, rfl, rfl, rfl, rfl, trivial⟩
        · have h := h.2 hc
          obtain ⟨h0q4_48, h⟩ := h
          refine bi_Tr 2 (s' := (51, [(5, .int (1 : Int32)), (0, .ref 57), (1, .int y1), (2, .int y2), (3, .int y3), (4, .int y4)], [.ref (st_gp s 7)], st_mm s)) rfl ?_
          refine bi_Tgr rfl rfl rfl (st_kB0 h0q4_48) (st_pB7 h0q4_48) ?_
          refine bi_Tr 1 (s' := (56, [(5, .int (1 : Int32)), (0, .ref 57), (1, .int y1), (2, .int y2), (3, .int y3), (4, .int y4)], [.int y4, .ref ((st_gp s 7) + 4)], st_mm s)) rfl ?_
          obtain ⟨hi, h⟩ := h
          refine bi_Tial rfl (by have := h0q4_48; simp only [st_isB] at this; rcases this with h | h <;> rw [h] <;> rfl) (st_kB4 h0q4_48) hi ?_
          refine bi_Tr 4 (s' := (75, [(6, .int (st_g s ((st_gp s 7) + 4) (y4).toNatClampNeg)), (5, .int (1 : Int32)), (0, .ref 57), (1, .int y1), (2, .int y2), (3, .int y3), (4, .int y4)], [.int y4, .int y1], st_mm s)) rfl ?_
          refine bi_TcI (as := [.int y1, .int y4]) rfl rfl ?_
          refine cI.mono h (fun r3 s3 h => ?_) (fun _ _ h => h.elim)
          refine bi_Tr 2 (s' := ((if ¬ r3 = (1 : Int32) then 105 else 82), [(6, .int (st_g s ((st_gp s 7) + 4) (y4).toNatClampNeg)), (5, .int (1 : Int32)), (0, .ref 57), (1, .int y1), (2, .int y2), (3, .int y3), (4, .int y4)], [], st_mm s3)) rfl (bi_Tif (fun hc => ?_) (fun hc => ?_))
          · have h := h.1 hc
            exact bi_Tww h rfl rfl ⟨rfl, rfl, rfl, rfl, rfl, trivial⟩
          · have h := h.2 hc
            obtain ⟨h0q5_84, h⟩ := h
            refine bi_Tr 3 (s' := (87, [(6, .int (st_g s ((st_gp s 7) + 4) (y4).toNatClampNeg)), (5, .int (1 : Int32)), (0, .ref 57), (1, .int y1), (2, .int y2), (3, .int y3), (4, .int y4)], [.ref (st_gp s3 7), .ref 57], st_mm s3)) rfl ?_
            refine bi_Tgr rfl rfl rfl (st_kB0 h0q5_84) (st_pB13 h0q5_84) ?_
            refine bi_Tr 1 (s' := (92, [(6, .int (st_g s ((st_gp s 7) + 4) (y4).toNatClampNeg)), (5, .int (1 : Int32)), (0, .ref 57), (1, .int y1), (2, .int y2), (3, .int y3), (4, .int y4)], [.int (st_g s ((st_gp s 7) + 4) (y4).toNatClampNeg), .ref ((st_gp s3 7) + 8), .ref 57], st_mm s3)) rfl ?_
            refine bi_TcI (as := [.ref 57, .ref ((st_gp s3 7) + 8), .int (st_g s ((st_gp s 7) + 4) (y4).toNatClampNeg)]) rfl rfl ?_
            refine cI.mono h (fun r4 s4 h => ?_) (fun _ _ h => h.elim)
            refine bi_Tr 1 (s' := ((if r4 = 0 then 105 else 98), [(6, .int (st_g s ((st_gp s 7) + 4) (y4).toNatClampNeg)), (5, .int (1 : Int32)), (0, .ref 57), (1, .int y1), (2, .int y2), (3, .int y3), (4, .int y4)], [], st_mm s4)) rfl (bi_Tif (fun hc => ?_) (fun hc => ?_))
            · have h := h.1 hc
              exact bi_Tww h rfl rfl ⟨rfl, rfl, rfl, rfl, rfl, trivial⟩
            · have h := h.2 hc
              refine bi_Tr 6 (s' := (105, [(3, .int (y3 ||| ((1 : Int32) <<< (y4 &&& 31)))), (6, .int (st_g s ((st_gp s 7) + 4) (y4).toNatClampNeg)), (5, .int (1 : Int32)), (0, .ref 57), (1, .int y1), (2, .int y2), (4, .int y4)], [], st_mm s4)) rfl ?_
              exact bi_Tww h rfl rfl ⟨rfl, rfl, rfl, rfl, rfl, trivial⟩
theorem go_X2_holding_60 {X : bi_X} {d : Nat} {K : Int32 → bi_St → Prop} {E : Nat → bi_St → Prop}  {s : bi_St} {y1 : Int32} {y2 : Int32} {y3 : Int32} {y4 : Int32}  (h : st_isB (st_gp s 7) ∧ (bi_in y4 8 = true ∧ (cI X d 160 [.int y1, .int y4] s (fun (r5 : Int32) (s5 : bi_St) => ((¬ r5 = (1 : Int32)) → at_X2_holding_105 X (d + 1) K E s5 (y1) (y2) (y3) (y4)) ∧ (¬ (¬ r5 = (1 : Int32)) → st_isB (st_gp s5 7) ∧ (cI X d 34 [.ref 57, .ref ((st_gp s5 7) + 8), .int (st_g s ((st_gp s 7) + 3) (y4).toNatClampNeg)] s5 (fun (r6 : Int32) (s6 : bi_St) => ((r6 = 0) → at_X2_holding_105 X (d + 1) K E s6 (y1) (y2) (y3) (y4)) ∧ (¬ (r6 = 0) → at_X2_holding_105 X (d + 1) K E s6 (y1) (y2) ((y3 ||| ((1 : Int32) <<< (y4 &&& 31)))) (y4))) (fun _ _ => False)))) (fun _ _ => False)))) : at_X2_holding_60 X (d + 1) K E s y1 y2 y3 y4 := by
  show bi_T _ _ _ _ _
  obtain ⟨h0q0_61, h⟩ := h
  refine bi_Tr 2 (s' := (64, [(0, .ref 57), (1, .int y1), (2, .int y2), (3, .int y3), (4, .int y4)], [.ref (st_gp s 7)], st_mm s)) rfl ?_
  refine bi_Tgr rfl rfl rfl (st_kB0 h0q0_61) (st_pB6 h0q0_61) ?_
  refine bi_Tr 1 (s' := (69, [(0, .ref 57), (1, .int y1), (2, .int y2), (3, .int y3), (4, .int y4)], [.int y4, .ref ((st_gp s 7) + 3)], st_mm s)) rfl ?_
  obtain ⟨hi, h⟩ := h
  refine bi_Tial rfl (by have := h0q0_61; simp only [st_isB] at this; rcases this with h | h <;> rw [h] <;> rfl) (st_kB3 h0q0_61) hi ?_
  refine bi_Tr 3 (s' := (75, [(6, .int (st_g s ((st_gp s 7) + 3) (y4).toNatClampNeg)), (0, .ref 57), (1, .int y1), (2, .int y2), (3, .int y3), (4, .int y4)], [.int y4, .int y1], st_mm s)) rfl ?_
  refine bi_TcI (as := [.int y1, .int y4]) rfl rfl ?_
  refine cI.mono h (fun r5 s5 h => ?_) (fun _ _ h => h.elim)
  refine bi_Tr 2 (s' := ((if ¬ r5 = (1 : Int32) then 105 else 82), [(6, .int (st_g s ((st_gp s 7) + 3) (y4).toNatClampNeg)), (0, .ref 57), (1, .int y1), (2, .int y2), (3, .int y3), (4, .int y4)], [], st_mm s5)) rfl (bi_Tif (fun hc => ?_) (fun hc => ?_))
  · have h := h.1 hc
    exact bi_Tww h rfl rfl ⟨rfl, rfl, rfl, rfl, rfl, trivial⟩
  · have h := h.2 hc
    obtain ⟨h0q1_84, h⟩ := h
    refine bi_Tr 3 (s' := (87, [(6, .int (st_g s ((st_gp s 7) + 3) (y4).toNatClampNeg)), (0, .ref 57), (1, .int y1), (2, .int y2), (3, .int y3), (4, .int y4)], [.ref (st_gp s5 7), .ref 57], st_mm s5)) rfl ?_
    refine bi_Tgr rfl rfl rfl (st_kB0 h0q1_84) (st_pB13 h0q1_84) ?_
    refine bi_Tr 1 (s' := (92, [(6, .int (st_g s ((st_gp s 7) + 3) (y4).toNatClampNeg)), (0, .ref 57), (1, .int y1), (2, .int y2), (3, .int y3), (4, .int y4)], [.int (st_g s ((st_gp s 7) + 3) (y4).toNatClampNeg), .ref ((st_gp s5 7) + 8), .ref 57], st_mm s5)) rfl ?_
    refine bi_TcI (as := [.ref 57, .ref ((st_gp s5 7) + 8), .int (st_g s ((st_gp s 7) + 3) (y4).toNatClampNeg)]) rfl rfl ?_
    refine cI.mono h (fun r6 s6 h => ?_) (fun _ _ h => h.elim)
    refine bi_Tr 1 (s' := ((if r6 = 0 then 105 else 98), [(6, .int (st_g s ((st_gp s 7) + 3) (y4).toNatClampNeg)), (0, .ref 57), (1, .int y1), (2, .int y2), (3, .int y3), (4, .int y4)], [], st_mm s6)) rfl (bi_Tif (fun hc => ?_) (fun hc => ?_))
    · have h := h.1 hc
      exact bi_Tww h rfl rfl ⟨rfl, rfl, rfl, rfl, rfl, trivial⟩
    · have h := h.2 hc
      refine bi_Tr 6 (s' := (105, [(3, .int (y3 ||| ((1 : Int32) <<< (y4 &&& 31)))), (6, .int (st_g s ((st_gp s 7) + 3) (y4).toNatClampNeg)), (0, .ref 57), (1, .int y1), (2, .int y2), (4, .int y4)], [], st_mm s6)) rfl ?_
      exact bi_Tww h rfl rfl ⟨rfl, rfl, rfl, rfl, rfl, trivial⟩
theorem go_X2_holding_105 {X : bi_X} {d : Nat} {K : Int32 → bi_St → Prop} {E : Nat → bi_St → Prop}  {s : bi_St} {y1 : Int32} {y2 : Int32} {y3 : Int32} {y4 : Int32}  (h : at_X2_holding_5 X (d + 1) K E s (y1) (y2) (y3) ((y4 + (1 : Int32)))) : at_X2_holding_105 X (d + 1) K E s y1 y2 y3 y4 := by
  show bi_T _ _ _ _ _
  refine bi_Tr 2 (s' := (5, [(4, .int (y4 + (1 : Int32))), (0, .ref 57), (1, .int y1), (2, .int y2), (3, .int y3)], [], st_mm s)) rfl ?_
  exact bi_Tww h rfl rfl ⟨rfl, rfl, rfl, rfl, rfl, trivial⟩
/-- PolicyRows$Judge.holding(IZ)I -/
theorem en_X2_holding {X : bi_X} {d : Nat} {K : Int32 → bi_St → Prop} {E : Nat → bi_St → Prop} {s : bi_St} {x0 : Int32} {x1 : Int32}  (h : at_X2_holding_5 X (d + 1) K E s (x0) (x1) ((0 : Int32)) ((0 : Int32))) : cI X (d + 1) 29 [.ref 57, .int x0, .int x1] s K E := by
  show bi_T _ _ _ _ _
  refine bi_Tr 4 (s' := (5, [(4, .int (0 : Int32)), (3, .int (0 : Int32)), (0, .ref 57), (1, .int x0), (2, .int x1)], [], st_mm s)) rfl ?_
  exact bi_Tww h rfl rfl ⟨rfl, rfl, rfl, rfl, rfl, trivial⟩
/-- PolicyRows$Judge.lets(II)Z -/
theorem en_X2_lets {X : bi_X} {d : Nat} {K : Int32 → bi_St → Prop} {E : Nat → bi_St → Prop} {s : bi_St} {x0 : Int32} {x1 : Int32}  (h : st_isB (st_gp s 7) ∧ (st_isB (st_gp s 7) ∧ (((((x0 &&& ((st_g s (st_gp s 7) 3) ^^^ (-1 : Int32))) &&& x1) = 0) → K (0 : Int32) s) ∧ (¬ (((x0 &&& ((st_g s (st_gp s 7) 3) ^^^ (-1 : Int32))) &&& x1) = 0) → ((¬ ((x0 &&& (st_g s (st_gp s 7) 3)) &&& (x1 ^^^ (-1 : Int32))) = 0) → K (0 : Int32) s) ∧ (¬ (¬ ((x0 &&& (st_g s (st_gp s 7) 3)) &&& (x1 ^^^ (-1 : Int32))) = 0) → K (1 : Int32) s))))) : cI X d 30 [.ref 57, .int x0, .int x1] s K E := by
  show bi_T _ _ _ _ _
  obtain ⟨h0q0_2, h⟩ := h
  refine bi_Tr 3 (s' := (5, [(0, .ref 57), (1, .int x0), (2, .int x1)], [.ref (st_gp s 7), .int x0], st_mm s)) rfl ?_
  refine bi_Tgi (o := 0) rfl rfl rfl (st_kB0 h0q0_2) ?_
  obtain ⟨h22q0_14, h⟩ := h
  refine bi_Tr 7 (s' := (17, [(3, .int (x0 &&& ((st_g s (st_gp s 7) 3) ^^^ (-1 : Int32)))), (0, .ref 57), (1, .int x0), (2, .int x1)], [.ref (st_gp s 7), .int x0], st_mm s)) rfl ?_
  refine bi_Tgi (o := 0) rfl rfl rfl (st_kB0 h22q0_14) ?_
  refine bi_Tr 6 (s' := ((if ((x0 &&& ((st_g s (st_gp s 7) 3) ^^^ (-1 : Int32))) &&& x1) = 0 then 42 else 29), [(4, .int (x0 &&& (st_g s (st_gp s 7) 3))), (3, .int (x0 &&& ((st_g s (st_gp s 7) 3) ^^^ (-1 : Int32)))), (0, .ref 57), (1, .int x0), (2, .int x1)], [], st_mm s)) rfl (bi_Tif (fun hc => ?_) (fun hc => ?_))
  · have h := h.1 hc
    refine bi_Tr 1 (s' := (43, [(4, .int (x0 &&& (st_g s (st_gp s 7) 3))), (3, .int (x0 &&& ((st_g s (st_gp s 7) 3) ^^^ (-1 : Int32)))), (0, .ref 57), (1, .int x0), (2, .int x1)], [.int (0 : Int32)], st_mm s)) rfl ?_
    exact bi_Tv rfl rfl (Or.inl ⟨_, _, rfl, h⟩)
  · have h := h.2 hc
    refine bi_Tr 6 (s' := ((if ¬ ((x0 &&& (st_g s (st_gp s 7) 3)) &&& (x1 ^^^ (-1 : Int32))) = 0 then 42 else 38), [(4, .int (x0 &&& (st_g s (st_gp s 7) 3))), (3, .int (x0 &&& ((st_g s (st_gp s 7) 3) ^^^ (-1 : Int32)))), (0, .ref 57), (1, .int x0), (2, .int x1)], [], st_mm s)) rfl (bi_Tif (fun hc => ?_) (fun hc => ?_))
    · have h := h.1 hc
      refine bi_Tr 1 (s' := (43, [(4, .int (x0 &&& (st_g s (st_gp s 7) 3))), (3, .int (x0 &&& ((st_g s (st_gp s 7) 3) ^^^ (-1 : Int32)))), (0, .ref 57), (1, .int x0), (2, .int x1)], [.int (0 : Int32)], st_mm s)) rfl ?_
      exact bi_Tv rfl rfl (Or.inl ⟨_, _, rfl, h⟩)
    · have h := h.2 hc
      refine bi_Tr 2 (s' := (43, [(4, .int (x0 &&& (st_g s (st_gp s 7) 3))), (3, .int (x0 &&& ((st_g s (st_gp s 7) 3) ^^^ (-1 : Int32)))), (0, .ref 57), (1, .int x0), (2, .int x1)], [.int (1 : Int32)], st_mm s)) rfl ?_
      exact bi_Tv rfl rfl (Or.inl ⟨_, _, rfl, h⟩)
/-- PolicyRows$Judge.allows(IZ)Z -/
theorem en_X2_allows {X : bi_X} {d : Nat} {K : Int32 → bi_St → Prop} {E : Nat → bi_St → Prop} {s : bi_St} {x0 : Int32} {x1 : Int32}  (h : st_isS (st_gp s 8) ∧ (cI X d 28 [.ref 57, .int (st_g s (st_gp s 8) 3), .int x0] s (fun (r1 : Int32) (s1 : bi_St) => cI X d 29 [.ref 57, .int r1, .int x1] s1 (fun (r2 : Int32) (s2 : bi_St) => cI X d 30 [.ref 57, .int r1, .int r2] s2 (fun (r3 : Int32) (s3 : bi_St) => bi_bool r3 = true ∧ (K r3 s3)) (fun _ _ => False)) (fun _ _ => False)) (fun _ _ => False))) : cI X (d + 1) 31 [.ref 57, .int x0, .int x1] s K E := by
  show bi_T _ _ _ _ _
  obtain ⟨h0q0_2, h⟩ := h
  refine bi_Tr 3 (s' := (5, [(0, .ref 57), (1, .int x0), (2, .int x1)], [.ref (st_gp s 8), .ref 57], st_mm s)) rfl ?_
  refine bi_Tgi (o := 0) rfl rfl rfl (st_kS0 h0q0_2) ?_
  refine bi_Tr 1 (s' := (9, [(0, .ref 57), (1, .int x0), (2, .int x1)], [.int x0, .int (st_g s (st_gp s 8) 3), .ref 57], st_mm s)) rfl ?_
  refine bi_TcI (as := [.ref 57, .int (st_g s (st_gp s 8) 3), .int x0]) rfl rfl ?_
  refine cI.mono h (fun r1 s1 h => ?_) (fun _ _ h => h.elim)
  refine bi_Tr 6 (s' := (18, [(3, .int r1), (0, .ref 57), (1, .int x0), (2, .int x1)], [.int x1, .int r1, .ref 57, .int r1, .ref 57], st_mm s1)) rfl ?_
  refine bi_TcI (as := [.ref 57, .int r1, .int x1]) rfl rfl ?_
  refine cI.mono h (fun r2 s2 h => ?_) (fun _ _ h => h.elim)
  refine bi_TcI (as := [.ref 57, .int r1, .int r2]) rfl rfl ?_
  refine cI.mono h (fun r3 s3 h => ?_) (fun _ _ h => h.elim)
  obtain ⟨hi, h⟩ := h
  exact bi_Tv rfl hi (Or.inl ⟨_, _, rfl, h⟩)
def at_X2_rowsRead_9 (X : bi_X) (d : Nat) (K : Int32 → bi_St → Prop) (E : Nat → bi_St → Prop) (s : bi_St) (y2 : Int32) (y3 : Int32) : Prop := bi_T X d 32 (9, [(0, .ref 57), (2, .int y2), (3, .int y3)], [], st_mm s) (st_RI K E)
theorem go_X2_rowsRead_9 {X : bi_X} {d : Nat} {K : Int32 → bi_St → Prop} {E : Nat → bi_St → Prop}  {s : bi_St} {y2 : Int32} {y3 : Int32}  (h : st_isS (st_gp s 8) ∧ ((((st_g s (st_gp s 8) 0) ≤ y3) → K y2 s) ∧ (¬ ((st_g s (st_gp s 8) 0) ≤ y3) → cV X d 27 [.ref 57, .int y3] s (fun (s2 : bi_St) => cI X d 31 [.ref 57, .int (0 : Int32), .int (0 : Int32)] s2 (fun (r3 : Int32) (s3 : bi_St) => ((r3 = 0) → at_X2_rowsRead_9 X (d + 1) K E s3 ((y2 ||| (0 : Int32))) ((y3 + (1 : Int32)))) ∧ (¬ (r3 = 0) → at_X2_rowsRead_9 X (d + 1) K E s3 ((y2 ||| ((1 : Int32) <<< (y3 &&& 31)))) ((y3 + (1 : Int32))))) (fun _ _ => False)) (fun _ _ => False)))) : at_X2_rowsRead_9 X (d + 1) K E s y2 y3 := by
  show bi_T _ _ _ _ _
  obtain ⟨h0q0_11, h⟩ := h
  refine bi_Tr 3 (s' := (14, [(0, .ref 57), (2, .int y2), (3, .int y3)], [.ref (st_gp s 8), .int y3], st_mm s)) rfl ?_
  refine bi_Tgi (o := 0) rfl rfl rfl (st_kS0 h0q0_11) ?_
  refine bi_Tr 1 (s' := ((if (st_g s (st_gp s 8) 0) ≤ y3 then 50 else 20), [(0, .ref 57), (2, .int y2), (3, .int y3)], [], st_mm s)) rfl (bi_Tif (fun hc => ?_) (fun hc => ?_))
  · have h := h.1 hc
    refine bi_Tr 1 (s' := (51, [(0, .ref 57), (2, .int y2), (3, .int y3)], [.int y2], st_mm s)) rfl ?_
    exact bi_Tv rfl rfl (Or.inl ⟨_, _, rfl, h⟩)
  · have h := h.2 hc
    refine bi_Tr 2 (s' := (22, [(0, .ref 57), (2, .int y2), (3, .int y3)], [.int y3, .ref 57], st_mm s)) rfl ?_
    refine bi_TcV (as := [.ref 57, .int y3]) rfl rfl ?_
    refine cV.mono h (fun s2 h => ?_) (fun _ _ h => h.elim)
    refine bi_Tr 4 (s' := (29, [(0, .ref 57), (2, .int y2), (3, .int y3)], [.int (0 : Int32), .int (0 : Int32), .ref 57, .int y2], st_mm s2)) rfl ?_
    refine bi_TcI (as := [.ref 57, .int (0 : Int32), .int (0 : Int32)]) rfl rfl ?_
    refine cI.mono h (fun r3 s3 h => ?_) (fun _ _ h => h.elim)
    refine bi_Tr 1 (s' := ((if r3 = 0 then 41 else 35), [(0, .ref 57), (2, .int y2), (3, .int y3)], [.int y2], st_mm s3)) rfl (bi_Tif (fun hc => ?_) (fun hc => ?_))
    · have h := h.1 hc
      refine bi_Tr 5 (s' := (9, [(3, .int (y3 + (1 : Int32))), (2, .int (y2 ||| (0 : Int32))), (0, .ref 57)], [], st_mm s3)) rfl ?_
      exact bi_Tww h rfl rfl ⟨rfl, rfl, rfl, trivial⟩
    · have h := h.2 hc
      refine bi_Tr 8 (s' := (9, [(3, .int (y3 + (1 : Int32))), (2, .int (y2 ||| ((1 : Int32) <<< (y3 &&& 31)))), (0, .ref 57)], [], st_mm s3)) rfl ?_
      exact bi_Tww h rfl rfl ⟨rfl, rfl, rfl, trivial⟩
/-- PolicyRows$Judge.rowsRead(I)I -/
theorem en_X2_rowsRead {X : bi_X} {d : Nat} {K : Int32 → bi_St → Prop} {E : Nat → bi_St → Prop} {s : bi_St} {x0 : Int32}  (h : cV X d 26 [.ref 57, .int x0] s (fun (s1 : bi_St) => at_X2_rowsRead_9 X (d + 1) K E s1 ((0 : Int32)) ((0 : Int32))) (fun _ _ => False)) : cI X (d + 1) 32 [.ref 57, .int x0] s K E := by
  show bi_T _ _ _ _ _
  refine bi_Tr 2 (s' := (2, [(0, .ref 57), (1, .int x0)], [.int x0, .ref 57], st_mm s)) rfl ?_
  refine bi_TcV (as := [.ref 57, .int x0]) rfl rfl ?_
  refine cV.mono h (fun s1 h => ?_) (fun _ _ h => h.elim)
  refine bi_Tr 4 (s' := (9, [(3, .int (0 : Int32)), (2, .int (0 : Int32)), (0, .ref 57), (1, .int x0)], [], st_mm s1)) rfl ?_
  exact bi_Tww h rfl rfl ⟨rfl, rfl, rfl, trivial⟩
def at_X2_readersOf_9 (X : bi_X) (d : Nat) (K : Int32 → bi_St → Prop) (E : Nat → bi_St → Prop) (s : bi_St) (y2 : Int32) (y3 : Int32) : Prop := bi_T X d 33 (9, [(0, .ref 57), (2, .int y2), (3, .int y3)], [], st_mm s) (st_RI K E)
theorem go_X2_readersOf_9 {X : bi_X} {d : Nat} {K : Int32 → bi_St → Prop} {E : Nat → bi_St → Prop}  {s : bi_St} {y2 : Int32} {y3 : Int32}  (h : st_isB (st_gp s 7) ∧ ((((st_g s (st_gp s 7) 1) ≤ y3) → K y2 s) ∧ (¬ ((st_g s (st_gp s 7) 1) ≤ y3) → cV X d 26 [.ref 57, .int y3] s (fun (s2 : bi_St) => cI X d 31 [.ref 57, .int (0 : Int32), .int (0 : Int32)] s2 (fun (r3 : Int32) (s3 : bi_St) => ((r3 = 0) → at_X2_readersOf_9 X (d + 1) K E s3 ((y2 ||| (0 : Int32))) ((y3 + (1 : Int32)))) ∧ (¬ (r3 = 0) → at_X2_readersOf_9 X (d + 1) K E s3 ((y2 ||| ((1 : Int32) <<< (y3 &&& 31)))) ((y3 + (1 : Int32))))) (fun _ _ => False)) (fun _ _ => False)))) : at_X2_readersOf_9 X (d + 1) K E s y2 y3 := by
  show bi_T _ _ _ _ _
  obtain ⟨h0q0_11, h⟩ := h
  refine bi_Tr 3 (s' := (14, [(0, .ref 57), (2, .int y2), (3, .int y3)], [.ref (st_gp s 7), .int y3], st_mm s)) rfl ?_
  refine bi_Tgi (o := 0) rfl rfl rfl (st_kB0 h0q0_11) ?_
  refine bi_Tr 1 (s' := ((if (st_g s (st_gp s 7) 1) ≤ y3 then 50 else 20), [(0, .ref 57), (2, .int y2), (3, .int y3)], [], st_mm s)) rfl (bi_Tif (fun hc => ?_) (fun hc => ?_))
  · have h := h.1 hc
    refine bi_Tr 1 (s' := (51, [(0, .ref 57), (2, .int y2), (3, .int y3)], [.int y2], st_mm s)) rfl ?_
    exact bi_Tv rfl rfl (Or.inl ⟨_, _, rfl, h⟩)
  · have h := h.2 hc
    refine bi_Tr 2 (s' := (22, [(0, .ref 57), (2, .int y2), (3, .int y3)], [.int y3, .ref 57], st_mm s)) rfl ?_
    refine bi_TcV (as := [.ref 57, .int y3]) rfl rfl ?_
    refine cV.mono h (fun s2 h => ?_) (fun _ _ h => h.elim)
    refine bi_Tr 4 (s' := (29, [(0, .ref 57), (2, .int y2), (3, .int y3)], [.int (0 : Int32), .int (0 : Int32), .ref 57, .int y2], st_mm s2)) rfl ?_
    refine bi_TcI (as := [.ref 57, .int (0 : Int32), .int (0 : Int32)]) rfl rfl ?_
    refine cI.mono h (fun r3 s3 h => ?_) (fun _ _ h => h.elim)
    refine bi_Tr 1 (s' := ((if r3 = 0 then 41 else 35), [(0, .ref 57), (2, .int y2), (3, .int y3)], [.int y2], st_mm s3)) rfl (bi_Tif (fun hc => ?_) (fun hc => ?_))
    · have h := h.1 hc
      refine bi_Tr 5 (s' := (9, [(3, .int (y3 + (1 : Int32))), (2, .int (y2 ||| (0 : Int32))), (0, .ref 57)], [], st_mm s3)) rfl ?_
      exact bi_Tww h rfl rfl ⟨rfl, rfl, rfl, trivial⟩
    · have h := h.2 hc
      refine bi_Tr 8 (s' := (9, [(3, .int (y3 + (1 : Int32))), (2, .int (y2 ||| ((1 : Int32) <<< (y3 &&& 31)))), (0, .ref 57)], [], st_mm s3)) rfl ?_
      exact bi_Tww h rfl rfl ⟨rfl, rfl, rfl, trivial⟩
/-- PolicyRows$Judge.readersOf(I)I -/
theorem en_X2_readersOf {X : bi_X} {d : Nat} {K : Int32 → bi_St → Prop} {E : Nat → bi_St → Prop} {s : bi_St} {x0 : Int32}  (h : cV X d 27 [.ref 57, .int x0] s (fun (s1 : bi_St) => at_X2_readersOf_9 X (d + 1) K E s1 ((0 : Int32)) ((0 : Int32))) (fun _ _ => False)) : cI X (d + 1) 33 [.ref 57, .int x0] s K E := by
  show bi_T _ _ _ _ _
  refine bi_Tr 2 (s' := (2, [(0, .ref 57), (1, .int x0)], [.int x0, .ref 57], st_mm s)) rfl ?_
  refine bi_TcV (as := [.ref 57, .int x0]) rfl rfl ?_
  refine cV.mono h (fun s1 h => ?_) (fun _ _ h => h.elim)
  refine bi_Tr 4 (s' := (9, [(3, .int (0 : Int32)), (2, .int (0 : Int32)), (0, .ref 57), (1, .int x0)], [], st_mm s1)) rfl ?_
  exact bi_Tww h rfl rfl ⟨rfl, rfl, rfl, trivial⟩
def at_X2_holds_42 (X : bi_X) (d : Nat) (K : Int32 → bi_St → Prop) (E : Nat → bi_St → Prop) (s : bi_St) (y3 : Int32) (y4 : Int32) (y5 : Int32) (b1 : Nat) : Prop := bi_T X d 34 (42, [(0, .ref 57), (1, .ref b1), (3, .int y3), (4, .int y4), (5, .int y5)], [], st_mm s) (st_RI K E)
def at_X2_holds_221 (X : bi_X) (d : Nat) (K : Int32 → bi_St → Prop) (E : Nat → bi_St → Prop) (s : bi_St)  : Prop := bi_T X d 34 (221, [], [], st_mm s) (st_RI K E)
def at_X2_holds_110 (X : bi_X) (d : Nat) (K : Int32 → bi_St → Prop) (E : Nat → bi_St → Prop) (s : bi_St)  : Prop := bi_T X d 34 (110, [], [], st_mm s) (st_RI K E)
def at_X2_holds_192 (X : bi_X) (d : Nat) (K : Int32 → bi_St → Prop) (E : Nat → bi_St → Prop) (s : bi_St) (y3 : Int32) (y4 : Int32) (y5 : Int32) (b1 : Nat) : Prop := bi_T X d 34 (192, [(0, .ref 57), (1, .ref b1), (3, .int y3), (4, .int y4), (5, .int y5)], [], st_mm s) (st_RI K E)
theorem go_X2_holds_42 {X : bi_X} {d : Nat} {K : Int32 → bi_St → Prop} {E : Nat → bi_St → Prop}  {s : bi_St} {y3 : Int32} {y4 : Int32} {y5 : Int32} {b1 : Nat} (hb1 : st_isR b1) (h : ((y4 ≤ y5) → bi_in (0 : Int32) 64 = true ∧ ((((st_g s 60 ((0 : Int32)).toNatClampNeg) = 0) → at_X2_holds_221 X (d + 1) K E s) ∧ (¬ ((st_g s 60 ((0 : Int32)).toNatClampNeg) = 0) → ((¬ (st_g s 57 7) = 0) → at_X2_holds_221 X (d + 1) K E s) ∧ (¬ (¬ (st_g s 57 7) = 0) → K (1 : Int32) s)))) ∧ (¬ (y4 ≤ y5) → bi_in y5 700 = true ∧ (bi_in y5 700 = true ∧ ((((3 : Int32) < ((st_g s (b1 + 1) (y5).toNatClampNeg) &&& (15 : Int32))) → (((5 : Int32) < ((st_g s (b1 + 1) (y5).toNatClampNeg) &&& (15 : Int32))) → ((y3 < (2 : Int32)) → at_X2_holds_110 X (d + 1) K E s) ∧ (¬ (y3 < (2 : Int32)) → (((y3 - (2 : Int32)) < (64 : Int32)) → ((¬ (2 : Int32) = 0) → ((¬ (2 : Int32) = (1 : Int32)) → bi_in (y3 - (2 : Int32)) 64 = true ∧ (bi_in ((y3 - (2 : Int32)) + (1 : Int32)) 64 = true ∧ (cI X d 37 [.ref 57, .int ((st_g s (b1 + 1) (y5).toNatClampNeg) &&& (15 : Int32)), .int (st_g s 60 ((y3 - (2 : Int32))).toNatClampNeg), .int (st_g s 60 (((y3 - (2 : Int32)) + (1 : Int32))).toNatClampNeg)] s (fun (r3 : Int32) (s3 : bi_St) => bi_in (y3 - (2 : Int32)) 64 = true ∧ (at_X2_holds_192 X (d + 1) K E (st_p s3 60 ((y3 - (2 : Int32))).toNatClampNeg r3) ((y3 - (2 : Int32))) (y4) (y5) (b1))) (fun _ _ => False)))) ∧ (¬ (¬ (2 : Int32) = (1 : Int32)) → bi_in (y3 - (2 : Int32)) 64 = true ∧ (cI X d 36 [.ref 57, .int ((st_g s (b1 + 1) (y5).toNatClampNeg) &&& (15 : Int32)), .int (st_g s 60 ((y3 - (2 : Int32))).toNatClampNeg)] s (fun (r4 : Int32) (s4 : bi_St) => bi_in (y3 - (2 : Int32)) 64 = true ∧ (at_X2_holds_192 X (d + 1) K E (st_p s4 60 ((y3 - (2 : Int32))).toNatClampNeg r4) ((y3 - (2 : Int32))) (y4) (y5) (b1))) (fun _ _ => False)))) ∧ (¬ (¬ (2 : Int32) = 0) → cI X d 35 [.ref 57, .int ((st_g s (b1 + 1) (y5).toNatClampNeg) &&& (15 : Int32)), .int ((st_g s (b1 + 1) (y5).toNatClampNeg) >>> ((4 : Int32) &&& 31))] s (fun (r5 : Int32) (s5 : bi_St) => bi_in (y3 - (2 : Int32)) 64 = true ∧ (at_X2_holds_192 X (d + 1) K E (st_p s5 60 ((y3 - (2 : Int32))).toNatClampNeg r5) ((y3 - (2 : Int32))) (y4) (y5) (b1))) (fun _ _ => False))) ∧ (¬ ((y3 - (2 : Int32)) < (64 : Int32)) → at_X2_holds_110 X (d + 1) K E s))) ∧ (¬ ((5 : Int32) < ((st_g s (b1 + 1) (y5).toNatClampNeg) &&& (15 : Int32))) → ((y3 < (1 : Int32)) → at_X2_holds_110 X (d + 1) K E s) ∧ (¬ (y3 < (1 : Int32)) → (((y3 - (1 : Int32)) < (64 : Int32)) → ((¬ (1 : Int32) = 0) → ((¬ (1 : Int32) = (1 : Int32)) → bi_in (y3 - (1 : Int32)) 64 = true ∧ (bi_in ((y3 - (1 : Int32)) + (1 : Int32)) 64 = true ∧ (cI X d 37 [.ref 57, .int ((st_g s (b1 + 1) (y5).toNatClampNeg) &&& (15 : Int32)), .int (st_g s 60 ((y3 - (1 : Int32))).toNatClampNeg), .int (st_g s 60 (((y3 - (1 : Int32)) + (1 : Int32))).toNatClampNeg)] s (fun (r6 : Int32) (s6 : bi_St) => bi_in (y3 - (1 : Int32)) 64 = true ∧ (at_X2_holds_192 X (d + 1) K E (st_p s6 60 ((y3 - (1 : Int32))).toNatClampNeg r6) ((y3 - (1 : Int32))) (y4) (y5) (b1))) (fun _ _ => False)))) ∧ (¬ (¬ (1 : Int32) = (1 : Int32)) → bi_in (y3 - (1 : Int32)) 64 = true ∧ (cI X d 36 [.ref 57, .int ((st_g s (b1 + 1) (y5).toNatClampNeg) &&& (15 : Int32)), .int (st_g s 60 ((y3 - (1 : Int32))).toNatClampNeg)] s (fun (r7 : Int32) (s7 : bi_St) => bi_in (y3 - (1 : Int32)) 64 = true ∧ (at_X2_holds_192 X (d + 1) K E (st_p s7 60 ((y3 - (1 : Int32))).toNatClampNeg r7) ((y3 - (1 : Int32))) (y4) (y5) (b1))) (fun _ _ => False)))) ∧ (¬ (¬ (1 : Int32) = 0) → cI X d 35 [.ref 57, .int ((st_g s (b1 + 1) (y5).toNatClampNeg) &&& (15 : Int32)), .int ((st_g s (b1 + 1) (y5).toNatClampNeg) >>> ((4 : Int32) &&& 31))] s (fun (r8 : Int32) (s8 : bi_St) => bi_in (y3 - (1 : Int32)) 64 = true ∧ (at_X2_holds_192 X (d + 1) K E (st_p s8 60 ((y3 - (1 : Int32))).toNatClampNeg r8) ((y3 - (1 : Int32))) (y4) (y5) (b1))) (fun _ _ => False))) ∧ (¬ ((y3 - (1 : Int32)) < (64 : Int32)) → at_X2_holds_110 X (d + 1) K E s)))) ∧ (¬ ((3 : Int32) < ((st_g s (b1 + 1) (y5).toNatClampNeg) &&& (15 : Int32))) → ((y3 < (0 : Int32)) → at_X2_holds_110 X (d + 1) K E s) ∧ (¬ (y3 < (0 : Int32)) → (((y3 - (0 : Int32)) < (64 : Int32)) → ((¬ (0 : Int32) = 0) → ((¬ (0 : Int32) = (1 : Int32)) → bi_in (y3 - (0 : Int32)) 64 = true ∧ (bi_in ((y3 - (0 : Int32)) + (1 : Int32)) 64 = true ∧ (cI X d 37 [.ref 57, .int ((st_g s (b1 + 1) (y5).toNatClampNeg) &&& (15 : Int32)), .int (st_g s 60 ((y3 - (0 : Int32))).toNatClampNeg), .int (st_g s 60 (((y3 - (0 : Int32)) + (1 : Int32))).toNatClampNeg)] s (fun (r9 : Int32) (s9 : bi_St) => bi_in (y3 - (0 : Int32)) 64 = true ∧ (at_X2_holds_192 X (d + 1) K E (st_p s9 60 ((y3 - (0 : Int32))).toNatClampNeg r9) ((y3 - (0 : Int32))) (y4) (y5) (b1))) (fun _ _ => False)))) ∧ (¬ (¬ (0 : Int32) = (1 : Int32)) → bi_in (y3 - (0 : Int32)) 64 = true ∧ (cI X d 36 [.ref 57, .int ((st_g s (b1 + 1) (y5).toNatClampNeg) &&& (15 : Int32)), .int (st_g s 60 ((y3 - (0 : Int32))).toNatClampNeg)] s (fun (r10 : Int32) (s10 : bi_St) => bi_in (y3 - (0 : Int32)) 64 = true ∧ (at_X2_holds_192 X (d + 1) K E (st_p s10 60 ((y3 - (0 : Int32))).toNatClampNeg r10) ((y3 - (0 : Int32))) (y4) (y5) (b1))) (fun _ _ => False)))) ∧ (¬ (¬ (0 : Int32) = 0) → cI X d 35 [.ref 57, .int ((st_g s (b1 + 1) (y5).toNatClampNeg) &&& (15 : Int32)), .int ((st_g s (b1 + 1) (y5).toNatClampNeg) >>> ((4 : Int32) &&& 31))] s (fun (r11 : Int32) (s11 : bi_St) => bi_in (y3 - (0 : Int32)) 64 = true ∧ (at_X2_holds_192 X (d + 1) K E (st_p s11 60 ((y3 - (0 : Int32))).toNatClampNeg r11) ((y3 - (0 : Int32))) (y4) (y5) (b1))) (fun _ _ => False))) ∧ (¬ ((y3 - (0 : Int32)) < (64 : Int32)) → at_X2_holds_110 X (d + 1) K E s))))))) : at_X2_holds_42 X (d + 1) K E s y3 y4 y5 b1 := by
  show bi_T _ _ _ _ _
  refine bi_Tr 3 (s' := ((if y4 ≤ y5 then 201 else 49), [(0, .ref 57), (1, .ref b1), (3, .int y3), (4, .int y4), (5, .int y5)], [], st_mm s)) rfl (bi_Tif (fun hc => ?_) (fun hc => ?_))
  · have h := h.1 hc
    refine bi_Tr 3 (s' := (206, [(0, .ref 57), (1, .ref b1), (3, .int y3), (4, .int y4), (5, .int y5)], [.int (0 : Int32), .ref 60], st_mm s)) rfl ?_
    obtain ⟨hi, h⟩ := h
    refine bi_Tial rfl rfl rfl hi ?_
    refine bi_Tr 1 (s' := ((if (st_g s 60 ((0 : Int32)).toNatClampNeg) = 0 then 221 else 210), [(0, .ref 57), (1, .ref b1), (3, .int y3), (4, .int y4), (5, .int y5)], [], st_mm s)) rfl (bi_Tif (fun hc => ?_) (fun hc => ?_))
    · have h := h.1 hc
      exact bi_Tww h rfl rfl trivial
    · have h := h.2 hc
      refine bi_Tr 3 (s' := ((if ¬ (st_g s 57 7) = 0 then 221 else 217), [(0, .ref 57), (1, .ref b1), (3, .int y3), (4, .int y4), (5, .int y5)], [], st_mm s)) rfl (bi_Tif (fun hc => ?_) (fun hc => ?_))
      · have h := h.1 hc
        exact bi_Tww h rfl rfl trivial
      · have h := h.2 hc
        refine bi_Tr 2 (s' := (222, [(0, .ref 57), (1, .ref b1), (3, .int y3), (4, .int y4), (5, .int y5)], [.int (1 : Int32)], st_mm s)) rfl ?_
        exact bi_Tv rfl rfl (Or.inl ⟨_, _, rfl, h⟩)
  · have h := h.2 hc
    refine bi_Tr 1 (s' := (50, [(0, .ref 57), (1, .ref b1), (3, .int y3), (4, .int y4), (5, .int y5)], [.ref b1], st_mm s)) rfl ?_
    refine bi_Tgr rfl rfl rfl (st_kR0 hb1) (st_pR0 hb1) ?_
    refine bi_Tr 1 (s' := (55, [(0, .ref 57), (1, .ref b1), (3, .int y3), (4, .int y4), (5, .int y5)], [.int y5, .ref (b1 + 1)], st_mm s)) rfl ?_
    obtain ⟨hi, h⟩ := h
    refine bi_Tial rfl (by have := hb1; simp only [st_isR] at this; rcases this with h | h | h <;> rw [h] <;> rfl) (st_kR1 hb1) hi ?_
    refine bi_Tr 4 (s' := (62, [(6, .int ((st_g s (b1 + 1) (y5).toNatClampNeg) &&& (15 : Int32))), (0, .ref 57), (1, .ref b1), (3, .int y3), (4, .int y4), (5, .int y5)], [.ref b1], st_mm s)) rfl ?_
    refine bi_Tgr rfl rfl rfl (st_kR0 hb1) (st_pR0 hb1) ?_
    refine bi_Tr 1 (s' := (67, [(6, .int ((st_g s (b1 + 1) (y5).toNatClampNeg) &&& (15 : Int32))), (0, .ref 57), (1, .ref b1), (3, .int y3), (4, .int y4), (5, .int y5)], [.int y5, .ref (b1 + 1)], st_mm s)) rfl ?_
    obtain ⟨hi, h⟩ := h
    refine bi_Tial rfl (by have := hb1; simp only [st_isR] at this; rcases this with h | h | h <;> rw [h] <;> rfl) (st_kR1 hb1) hi ?_
    refine bi_Tr 6 (s' := ((if (3 : Int32) < ((st_g s (b1 + 1) (y5).toNatClampNeg) &&& (15 : Int32)) then 82 else 78), [(7, .int ((st_g s (b1 + 1) (y5).toNatClampNeg) >>> ((4 : Int32) &&& 31))), (6, .int ((st_g s (b1 + 1) (y5).toNatClampNeg) &&& (15 : Int32))), (0, .ref 57), (1, .ref b1), (3, .int y3), (4, .int y4), (5, .int y5)], [], st_mm s)) rfl (bi_Tif (fun hc => ?_) (fun hc => ?_))
    · have h := h.1 hc
      refine bi_Tr 3 (s' := ((if (5 : Int32) < ((st_g s (b1 + 1) (y5).toNatClampNeg) &&& (15 : Int32)) then 92 else 88), [(7, .int ((st_g s (b1 + 1) (y5).toNatClampNeg) >>> ((4 : Int32) &&& 31))), (6, .int ((st_g s (b1 + 1) (y5).toNatClampNeg) &&& (15 : Int32))), (0, .ref 57), (1, .ref b1), (3, .int y3), (4, .int y4), (5, .int y5)], [], st_mm s)) rfl (bi_Tif (fun hc => ?_) (fun hc => ?_))
      · have h := h.1 hc
        refine bi_Tr 5 (s' := ((if y3 < (2 : Int32) then 110 else 101), [(8, .int (2 : Int32)), (7, .int ((st_g s (b1 + 1) (y5).toNatClampNeg) >>> ((4 : Int32) &&& 31))), (6, .int ((st_g s (b1 + 1) (y5).toNatClampNeg) &&& (15 : Int32))), (0, .ref 57), (1, .ref b1), (3, .int y3), (4, .int y4), (5, .int y5)], [], st_mm s)) rfl (bi_Tif (fun hc => ?_) (fun hc => ?_))
        · have h := h.1 hc
          exact bi_Tww h rfl rfl trivial
        · have h := h.2 hc
          refine bi_Tr 5 (s' := ((if (y3 - (2 : Int32)) < (64 : Int32) then 112 else 110), [(8, .int (2 : Int32)), (7, .int ((st_g s (b1 + 1) (y5).toNatClampNeg) >>> ((4 : Int32) &&& 31))), (6, .int ((st_g s (b1 + 1) (y5).toNatClampNeg) &&& (15 : Int32))), (0, .ref 57), (1, .ref b1), (3, .int y3), (4, .int y4), (5, .int y5)], [], st_mm s)) rfl (bi_Tif (fun hc => ?_) (fun hc => ?_))
          · have h := h.1 hc
            refine bi_Tr 6 (s' := ((if ¬ (2 : Int32) = 0 then 139 else 122), [(3, .int (y3 - (2 : Int32))), (8, .int (2 : Int32)), (7, .int ((st_g s (b1 + 1) (y5).toNatClampNeg) >>> ((4 : Int32) &&& 31))), (6, .int ((st_g s (b1 + 1) (y5).toNatClampNeg) &&& (15 : Int32))), (0, .ref 57), (1, .ref b1), (4, .int y4), (5, .int y5)], [], st_mm s)) rfl (bi_Tif (fun hc => ?_) (fun hc => ?_))
            · have h := h.1 hc
              refine bi_Tr 3 (s' := ((if ¬ (2 : Int32) = (1 : Int32) then 166 else 145), [(3, .int (y3 - (2 : Int32))), (8, .int (2 : Int32)), (7, .int ((st_g s (b1 + 1) (y5).toNatClampNeg) >>> ((4 : Int32) &&& 31))), (6, .int ((st_g s (b1 + 1) (y5).toNatClampNeg) &&& (15 : Int32))), (0, .ref 57), (1, .ref b1), (4, .int y4), (5, .int y5)], [], st_mm s)) rfl (bi_Tif (fun hc => ?_) (fun hc => ?_))
              · have h := h.1 hc
                refine bi_Tr 8 (s' := (179, [(3, .int (y3 - (2 : Int32))), (8, .int (2 : Int32)), (7, .int ((st_g s (b1 + 1) (y5).toNatClampNeg) >>> ((4 : Int32) &&& 31))), (6, .int ((st_g s (b1 + 1) (y5).toNatClampNeg) &&& (15 : Int32))), (0, .ref 57), (1, .ref b1), (4, .int y4), (5, .int y5)], [.int (y3 - (2 : Int32)), .ref 60, .int ((st_g s (b1 + 1) (y5).toNatClampNeg) &&& (15 : Int32)), .ref 57, .int (y3 - (2 : Int32)), .ref 60], st_mm s)) rfl ?_
                obtain ⟨hi, h⟩ := h
                refine bi_Tial rfl rfl rfl hi ?_
                refine bi_Tr 5 (s' := (187, [(3, .int (y3 - (2 : Int32))), (8, .int (2 : Int32)), (7, .int ((st_g s (b1 + 1) (y5).toNatClampNeg) >>> ((4 : Int32) &&& 31))), (6, .int ((st_g s (b1 + 1) (y5).toNatClampNeg) &&& (15 : Int32))), (0, .ref 57), (1, .ref b1), (4, .int y4), (5, .int y5)], [.int ((y3 - (2 : Int32)) + (1 : Int32)), .ref 60, .int (st_g s 60 ((y3 - (2 : Int32))).toNatClampNeg), .int ((st_g s (b1 + 1) (y5).toNatClampNeg) &&& (15 : Int32)), .ref 57, .int (y3 - (2 : Int32)), .ref 60], st_mm s)) rfl ?_
                obtain ⟨hi, h⟩ := h
                refine bi_Tial rfl rfl rfl hi ?_
                refine bi_TcI (as := [.ref 57, .int ((st_g s (b1 + 1) (y5).toNatClampNeg) &&& (15 : Int32)), .int (st_g s 60 ((y3 - (2 : Int32))).toNatClampNeg), .int (st_g s 60 (((y3 - (2 : Int32)) + (1 : Int32))).toNatClampNeg)]) rfl rfl ?_
                refine cI.mono h (fun r3 s3 h => ?_) (fun _ _ h => h.elim)
                obtain ⟨hi, h⟩ := h
                refine bi_Tias rfl rfl hi ?_
                exact bi_Tww h rfl rfl ⟨rfl, rfl, rfl, rfl, rfl, trivial⟩
              · have h := h.2 hc
                refine bi_Tr 8 (s' := (158, [(3, .int (y3 - (2 : Int32))), (8, .int (2 : Int32)), (7, .int ((st_g s (b1 + 1) (y5).toNatClampNeg) >>> ((4 : Int32) &&& 31))), (6, .int ((st_g s (b1 + 1) (y5).toNatClampNeg) &&& (15 : Int32))), (0, .ref 57), (1, .ref b1), (4, .int y4), (5, .int y5)], [.int (y3 - (2 : Int32)), .ref 60, .int ((st_g s (b1 + 1) (y5).toNatClampNeg) &&& (15 : Int32)), .ref 57, .int (y3 - (2 : Int32)), .ref 60], st_mm s)) rfl ?_
                obtain ⟨hi, h⟩ := h
                refine bi_Tial rfl rfl rfl hi ?_
                refine bi_TcI (as := [.ref 57, .int ((st_g s (b1 + 1) (y5).toNatClampNeg) &&& (15 : Int32)), .int (st_g s 60 ((y3 - (2 : Int32))).toNatClampNeg)]) rfl rfl ?_
                refine cI.mono h (fun r4 s4 h => ?_) (fun _ _ h => h.elim)
                obtain ⟨hi, h⟩ := h
                refine bi_Tias rfl rfl hi ?_
                refine bi_Tr 1 (s' := (192, [(3, .int (y3 - (2 : Int32))), (8, .int (2 : Int32)), (7, .int ((st_g s (b1 + 1) (y5).toNatClampNeg) >>> ((4 : Int32) &&& 31))), (6, .int ((st_g s (b1 + 1) (y5).toNatClampNeg) &&& (15 : Int32))), (0, .ref 57), (1, .ref b1), (4, .int y4), (5, .int y5)], [], st_mm (st_p s4 60 ((y3 - (2 : Int32))).toNatClampNeg r4))) rfl ?_
                exact bi_Tww h rfl rfl ⟨rfl, rfl, rfl, rfl, rfl, trivial⟩
            · have h := h.2 hc
              refine bi_Tr 6 (s' := (132, [(3, .int (y3 - (2 : Int32))), (8, .int (2 : Int32)), (7, .int ((st_g s (b1 + 1) (y5).toNatClampNeg) >>> ((4 : Int32) &&& 31))), (6, .int ((st_g s (b1 + 1) (y5).toNatClampNeg) &&& (15 : Int32))), (0, .ref 57), (1, .ref b1), (4, .int y4), (5, .int y5)], [.int ((st_g s (b1 + 1) (y5).toNatClampNeg) >>> ((4 : Int32) &&& 31)), .int ((st_g s (b1 + 1) (y5).toNatClampNeg) &&& (15 : Int32)), .ref 57, .int (y3 - (2 : Int32)), .ref 60], st_mm s)) rfl ?_
              refine bi_TcI (as := [.ref 57, .int ((st_g s (b1 + 1) (y5).toNatClampNeg) &&& (15 : Int32)), .int ((st_g s (b1 + 1) (y5).toNatClampNeg) >>> ((4 : Int32) &&& 31))]) rfl rfl ?_
              refine cI.mono h (fun r5 s5 h => ?_) (fun _ _ h => h.elim)
              obtain ⟨hi, h⟩ := h
              refine bi_Tias rfl rfl hi ?_
              refine bi_Tr 1 (s' := (192, [(3, .int (y3 - (2 : Int32))), (8, .int (2 : Int32)), (7, .int ((st_g s (b1 + 1) (y5).toNatClampNeg) >>> ((4 : Int32) &&& 31))), (6, .int ((st_g s (b1 + 1) (y5).toNatClampNeg) &&& (15 : Int32))), (0, .ref 57), (1, .ref b1), (4, .int y4), (5, .int y5)], [], st_mm (st_p s5 60 ((y3 - (2 : Int32))).toNatClampNeg r5))) rfl ?_
              exact bi_Tww h rfl rfl ⟨rfl, rfl, rfl, rfl, rfl, trivial⟩
          · have h := h.2 hc
            exact bi_Tww h rfl rfl trivial
      · have h := h.2 hc
        refine bi_Tr 6 (s' := ((if y3 < (1 : Int32) then 110 else 101), [(8, .int (1 : Int32)), (7, .int ((st_g s (b1 + 1) (y5).toNatClampNeg) >>> ((4 : Int32) &&& 31))), (6, .int ((st_g s (b1 + 1) (y5).toNatClampNeg) &&& (15 : Int32))), (0, .ref 57), (1, .ref b1), (3, .int y3), (4, .int y4), (5, .int y5)], [], st_mm s)) rfl (bi_Tif (fun hc => ?_) (fun hc => ?_))
        · have h := h.1 hc
          exact bi_Tww h rfl rfl trivial
        · have h := h.2 hc
          refine bi_Tr 5 (s' := ((if (y3 - (1 : Int32)) < (64 : Int32) then 112 else 110), [(8, .int (1 : Int32)), (7, .int ((st_g s (b1 + 1) (y5).toNatClampNeg) >>> ((4 : Int32) &&& 31))), (6, .int ((st_g s (b1 + 1) (y5).toNatClampNeg) &&& (15 : Int32))), (0, .ref 57), (1, .ref b1), (3, .int y3), (4, .int y4), (5, .int y5)], [], st_mm s)) rfl (bi_Tif (fun hc => ?_) (fun hc => ?_))
          · have h := h.1 hc
            refine bi_Tr 6 (s' := ((if ¬ (1 : Int32) = 0 then 139 else 122), [(3, .int (y3 - (1 : Int32))), (8, .int (1 : Int32)), (7, .int ((st_g s (b1 + 1) (y5).toNatClampNeg) >>> ((4 : Int32) &&& 31))), (6, .int ((st_g s (b1 + 1) (y5).toNatClampNeg) &&& (15 : Int32))), (0, .ref 57), (1, .ref b1), (4, .int y4), (5, .int y5)], [], st_mm s)) rfl (bi_Tif (fun hc => ?_) (fun hc => ?_))
            · have h := h.1 hc
              refine bi_Tr 3 (s' := ((if ¬ (1 : Int32) = (1 : Int32) then 166 else 145), [(3, .int (y3 - (1 : Int32))), (8, .int (1 : Int32)), (7, .int ((st_g s (b1 + 1) (y5).toNatClampNeg) >>> ((4 : Int32) &&& 31))), (6, .int ((st_g s (b1 + 1) (y5).toNatClampNeg) &&& (15 : Int32))), (0, .ref 57), (1, .ref b1), (4, .int y4), (5, .int y5)], [], st_mm s)) rfl (bi_Tif (fun hc => ?_) (fun hc => ?_))
              · have h := h.1 hc
                refine bi_Tr 8 (s' := (179, [(3, .int (y3 - (1 : Int32))), (8, .int (1 : Int32)), (7, .int ((st_g s (b1 + 1) (y5).toNatClampNeg) >>> ((4 : Int32) &&& 31))), (6, .int ((st_g s (b1 + 1) (y5).toNatClampNeg) &&& (15 : Int32))), (0, .ref 57), (1, .ref b1), (4, .int y4), (5, .int y5)], [.int (y3 - (1 : Int32)), .ref 60, .int ((st_g s (b1 + 1) (y5).toNatClampNeg) &&& (15 : Int32)), .ref 57, .int (y3 - (1 : Int32)), .ref 60], st_mm s)) rfl ?_
                obtain ⟨hi, h⟩ := h
                refine bi_Tial rfl rfl rfl hi ?_
                refine bi_Tr 5 (s' := (187, [(3, .int (y3 - (1 : Int32))), (8, .int (1 : Int32)), (7, .int ((st_g s (b1 + 1) (y5).toNatClampNeg) >>> ((4 : Int32) &&& 31))), (6, .int ((st_g s (b1 + 1) (y5).toNatClampNeg) &&& (15 : Int32))), (0, .ref 57), (1, .ref b1), (4, .int y4), (5, .int y5)], [.int ((y3 - (1 : Int32)) + (1 : Int32)), .ref 60, .int (st_g s 60 ((y3 - (1 : Int32))).toNatClampNeg), .int ((st_g s (b1 + 1) (y5).toNatClampNeg) &&& (15 : Int32)), .ref 57, .int (y3 - (1 : Int32)), .ref 60], st_mm s)) rfl ?_
                obtain ⟨hi, h⟩ := h
                refine bi_Tial rfl rfl rfl hi ?_
                refine bi_TcI (as := [.ref 57, .int ((st_g s (b1 + 1) (y5).toNatClampNeg) &&& (15 : Int32)), .int (st_g s 60 ((y3 - (1 : Int32))).toNatClampNeg), .int (st_g s 60 (((y3 - (1 : Int32)) + (1 : Int32))).toNatClampNeg)]) rfl rfl ?_
                refine cI.mono h (fun r6 s6 h => ?_) (fun _ _ h => h.elim)
                obtain ⟨hi, h⟩ := h
                refine bi_Tias rfl rfl hi ?_
                exact bi_Tww h rfl rfl ⟨rfl, rfl, rfl, rfl, rfl, trivial⟩
              · have h := h.2 hc
                refine bi_Tr 8 (s' := (158, [(3, .int (y3 - (1 : Int32))), (8, .int (1 : Int32)), (7, .int ((st_g s (b1 + 1) (y5).toNatClampNeg) >>> ((4 : Int32) &&& 31))), (6, .int ((st_g s (b1 + 1) (y5).toNatClampNeg) &&& (15 : Int32))), (0, .ref 57), (1, .ref b1), (4, .int y4), (5, .int y5)], [.int (y3 - (1 : Int32)), .ref 60, .int ((st_g s (b1 + 1) (y5).toNatClampNeg) &&& (15 : Int32)), .ref 57, .int (y3 - (1 : Int32)), .ref 60], st_mm s)) rfl ?_
                obtain ⟨hi, h⟩ := h
                refine bi_Tial rfl rfl rfl hi ?_
                refine bi_TcI (as := [.ref 57, .int ((st_g s (b1 + 1) (y5).toNatClampNeg) &&& (15 : Int32)), .int (st_g s 60 ((y3 - (1 : Int32))).toNatClampNeg)]) rfl rfl ?_
                refine cI.mono h (fun r7 s7 h => ?_) (fun _ _ h => h.elim)
                obtain ⟨hi, h⟩ := h
                refine bi_Tias rfl rfl hi ?_
                refine bi_Tr 1 (s' := (192, [(3, .int (y3 - (1 : Int32))), (8, .int (1 : Int32)), (7, .int ((st_g s (b1 + 1) (y5).toNatClampNeg) >>> ((4 : Int32) &&& 31))), (6, .int ((st_g s (b1 + 1) (y5).toNatClampNeg) &&& (15 : Int32))), (0, .ref 57), (1, .ref b1), (4, .int y4), (5, .int y5)], [], st_mm (st_p s7 60 ((y3 - (1 : Int32))).toNatClampNeg r7))) rfl ?_
                exact bi_Tww h rfl rfl ⟨rfl, rfl, rfl, rfl, rfl, trivial⟩
            · have h := h.2 hc
              refine bi_Tr 6 (s' := (132, [(3, .int (y3 - (1 : Int32))), (8, .int (1 : Int32)), (7, .int ((st_g s (b1 + 1) (y5).toNatClampNeg) >>> ((4 : Int32) &&& 31))), (6, .int ((st_g s (b1 + 1) (y5).toNatClampNeg) &&& (15 : Int32))), (0, .ref 57), (1, .ref b1), (4, .int y4), (5, .int y5)], [.int ((st_g s (b1 + 1) (y5).toNatClampNeg) >>> ((4 : Int32) &&& 31)), .int ((st_g s (b1 + 1) (y5).toNatClampNeg) &&& (15 : Int32)), .ref 57, .int (y3 - (1 : Int32)), .ref 60], st_mm s)) rfl ?_
              refine bi_TcI (as := [.ref 57, .int ((st_g s (b1 + 1) (y5).toNatClampNeg) &&& (15 : Int32)), .int ((st_g s (b1 + 1) (y5).toNatClampNeg) >>> ((4 : Int32) &&& 31))]) rfl rfl ?_
              refine cI.mono h (fun r8 s8 h => ?_) (fun _ _ h => h.elim)
              obtain ⟨hi, h⟩ := h
              refine bi_Tias rfl rfl hi ?_
              refine bi_Tr 1 (s' := (192, [(3, .int (y3 - (1 : Int32))), (8, .int (1 : Int32)), (7, .int ((st_g s (b1 + 1) (y5).toNatClampNeg) >>> ((4 : Int32) &&& 31))), (6, .int ((st_g s (b1 + 1) (y5).toNatClampNeg) &&& (15 : Int32))), (0, .ref 57), (1, .ref b1), (4, .int y4), (5, .int y5)], [], st_mm (st_p s8 60 ((y3 - (1 : Int32))).toNatClampNeg r8))) rfl ?_
              exact bi_Tww h rfl rfl ⟨rfl, rfl, rfl, rfl, rfl, trivial⟩
          · have h := h.2 hc
            exact bi_Tww h rfl rfl trivial
    · have h := h.2 hc
      refine bi_Tr 6 (s' := ((if y3 < (0 : Int32) then 110 else 101), [(8, .int (0 : Int32)), (7, .int ((st_g s (b1 + 1) (y5).toNatClampNeg) >>> ((4 : Int32) &&& 31))), (6, .int ((st_g s (b1 + 1) (y5).toNatClampNeg) &&& (15 : Int32))), (0, .ref 57), (1, .ref b1), (3, .int y3), (4, .int y4), (5, .int y5)], [], st_mm s)) rfl (bi_Tif (fun hc => ?_) (fun hc => ?_))
      · have h := h.1 hc
        exact bi_Tww h rfl rfl trivial
      · have h := h.2 hc
        refine bi_Tr 5 (s' := ((if (y3 - (0 : Int32)) < (64 : Int32) then 112 else 110), [(8, .int (0 : Int32)), (7, .int ((st_g s (b1 + 1) (y5).toNatClampNeg) >>> ((4 : Int32) &&& 31))), (6, .int ((st_g s (b1 + 1) (y5).toNatClampNeg) &&& (15 : Int32))), (0, .ref 57), (1, .ref b1), (3, .int y3), (4, .int y4), (5, .int y5)], [], st_mm s)) rfl (bi_Tif (fun hc => ?_) (fun hc => ?_))
        · have h := h.1 hc
          refine bi_Tr 6 (s' := ((if ¬ (0 : Int32) = 0 then 139 else 122), [(3, .int (y3 - (0 : Int32))), (8, .int (0 : Int32)), (7, .int ((st_g s (b1 + 1) (y5).toNatClampNeg) >>> ((4 : Int32) &&& 31))), (6, .int ((st_g s (b1 + 1) (y5).toNatClampNeg) &&& (15 : Int32))), (0, .ref 57), (1, .ref b1), (4, .int y4), (5, .int y5)], [], st_mm s)) rfl (bi_Tif (fun hc => ?_) (fun hc => ?_))
          · have h := h.1 hc
            refine bi_Tr 3 (s' := ((if ¬ (0 : Int32) = (1 : Int32) then 166 else 145), [(3, .int (y3 - (0 : Int32))), (8, .int (0 : Int32)), (7, .int ((st_g s (b1 + 1) (y5).toNatClampNeg) >>> ((4 : Int32) &&& 31))), (6, .int ((st_g s (b1 + 1) (y5).toNatClampNeg) &&& (15 : Int32))), (0, .ref 57), (1, .ref b1), (4, .int y4), (5, .int y5)], [], st_mm s)) rfl (bi_Tif (fun hc => ?_) (fun hc => ?_))
            · have h := h.1 hc
              refine bi_Tr 8 (s' := (179, [(3, .int (y3 - (0 : Int32))), (8, .int (0 : Int32)), (7, .int ((st_g s (b1 + 1) (y5).toNatClampNeg) >>> ((4 : Int32) &&& 31))), (6, .int ((st_g s (b1 + 1) (y5).toNatClampNeg) &&& (15 : Int32))), (0, .ref 57), (1, .ref b1), (4, .int y4), (5, .int y5)], [.int (y3 - (0 : Int32)), .ref 60, .int ((st_g s (b1 + 1) (y5).toNatClampNeg) &&& (15 : Int32)), .ref 57, .int (y3 - (0 : Int32)), .ref 60], st_mm s)) rfl ?_
              obtain ⟨hi, h⟩ := h
              refine bi_Tial rfl rfl rfl hi ?_
              refine bi_Tr 5 (s' := (187, [(3, .int (y3 - (0 : Int32))), (8, .int (0 : Int32)), (7, .int ((st_g s (b1 + 1) (y5).toNatClampNeg) >>> ((4 : Int32) &&& 31))), (6, .int ((st_g s (b1 + 1) (y5).toNatClampNeg) &&& (15 : Int32))), (0, .ref 57), (1, .ref b1), (4, .int y4), (5, .int y5)], [.int ((y3 - (0 : Int32)) + (1 : Int32)), .ref 60, .int (st_g s 60 ((y3 - (0 : Int32))).toNatClampNeg), .int ((st_g s (b1 + 1) (y5).toNatClampNeg) &&& (15 : Int32)), .ref 57, .int (y3 - (0 : Int32)), .ref 60], st_mm s)) rfl ?_
              obtain ⟨hi, h⟩ := h
              refine bi_Tial rfl rfl rfl hi ?_
              refine bi_TcI (as := [.ref 57, .int ((st_g s (b1 + 1) (y5).toNatClampNeg) &&& (15 : Int32)), .int (st_g s 60 ((y3 - (0 : Int32))).toNatClampNeg), .int (st_g s 60 (((y3 - (0 : Int32)) + (1 : Int32))).toNatClampNeg)]) rfl rfl ?_
              refine cI.mono h (fun r9 s9 h => ?_) (fun _ _ h => h.elim)
              obtain ⟨hi, h⟩ := h
              refine bi_Tias rfl rfl hi ?_
              exact bi_Tww h rfl rfl ⟨rfl, rfl, rfl, rfl, rfl, trivial⟩
            · have h := h.2 hc
              refine bi_Tr 8 (s' := (158, [(3, .int (y3 - (0 : Int32))), (8, .int (0 : Int32)), (7, .int ((st_g s (b1 + 1) (y5).toNatClampNeg) >>> ((4 : Int32) &&& 31))), (6, .int ((st_g s (b1 + 1) (y5).toNatClampNeg) &&& (15 : Int32))), (0, .ref 57), (1, .ref b1), (4, .int y4), (5, .int y5)], [.int (y3 - (0 : Int32)), .ref 60, .int ((st_g s (b1 + 1) (y5).toNatClampNeg) &&& (15 : Int32)), .ref 57, .int (y3 - (0 : Int32)), .ref 60], st_mm s)) rfl ?_
              obtain ⟨hi, h⟩ := h
              refine bi_Tial rfl rfl rfl hi ?_
              refine bi_TcI (as := [.ref 57, .int ((st_g s (b1 + 1) (y5).toNatClampNeg) &&& (15 : Int32)), .int (st_g s 60 ((y3 - (0 : Int32))).toNatClampNeg)]) rfl rfl ?_
              refine cI.mono h (fun r10 s10 h => ?_) (fun _ _ h => h.elim)
              obtain ⟨hi, h⟩ := h
              refine bi_Tias rfl rfl hi ?_
              refine bi_Tr 1 (s' := (192, [(3, .int (y3 - (0 : Int32))), (8, .int (0 : Int32)), (7, .int ((st_g s (b1 + 1) (y5).toNatClampNeg) >>> ((4 : Int32) &&& 31))), (6, .int ((st_g s (b1 + 1) (y5).toNatClampNeg) &&& (15 : Int32))), (0, .ref 57), (1, .ref b1), (4, .int y4), (5, .int y5)], [], st_mm (st_p s10 60 ((y3 - (0 : Int32))).toNatClampNeg r10))) rfl ?_
              exact bi_Tww h rfl rfl ⟨rfl, rfl, rfl, rfl, rfl, trivial⟩
          · have h := h.2 hc
            refine bi_Tr 6 (s' := (132, [(3, .int (y3 - (0 : Int32))), (8, .int (0 : Int32)), (7, .int ((st_g s (b1 + 1) (y5).toNatClampNeg) >>> ((4 : Int32) &&& 31))), (6, .int ((st_g s (b1 + 1) (y5).toNatClampNeg) &&& (15 : Int32))), (0, .ref 57), (1, .ref b1), (4, .int y4), (5, .int y5)], [.int ((st_g s (b1 + 1) (y5).toNatClampNeg) >>> ((4 : Int32) &&& 31)), .int ((st_g s (b1 + 1) (y5).toNatClampNeg) &&& (15 : Int32)), .ref 57, .int (y3 - (0 : Int32)), .ref 60], st_mm s)) rfl ?_
            refine bi_TcI (as := [.ref 57, .int ((st_g s (b1 + 1) (y5).toNatClampNeg) &&& (15 : Int32)), .int ((st_g s (b1 + 1) (y5).toNatClampNeg) >>> ((4 : Int32) &&& 31))]) rfl rfl ?_
            refine cI.mono h (fun r11 s11 h => ?_) (fun _ _ h => h.elim)
            obtain ⟨hi, h⟩ := h
            refine bi_Tias rfl rfl hi ?_
            refine bi_Tr 1 (s' := (192, [(3, .int (y3 - (0 : Int32))), (8, .int (0 : Int32)), (7, .int ((st_g s (b1 + 1) (y5).toNatClampNeg) >>> ((4 : Int32) &&& 31))), (6, .int ((st_g s (b1 + 1) (y5).toNatClampNeg) &&& (15 : Int32))), (0, .ref 57), (1, .ref b1), (4, .int y4), (5, .int y5)], [], st_mm (st_p s11 60 ((y3 - (0 : Int32))).toNatClampNeg r11))) rfl ?_
            exact bi_Tww h rfl rfl ⟨rfl, rfl, rfl, rfl, rfl, trivial⟩
        · have h := h.2 hc
          exact bi_Tww h rfl rfl trivial
theorem go_X2_holds_221 {X : bi_X} {d : Nat} {K : Int32 → bi_St → Prop} {E : Nat → bi_St → Prop}  {s : bi_St}   (h : K (0 : Int32) s) : at_X2_holds_221 X (d + 1) K E s  := by
  show bi_T _ _ _ _ _
  refine bi_Tr 1 (s' := (222, [], [.int (0 : Int32)], st_mm s)) rfl ?_
  exact bi_Tv rfl rfl (Or.inl ⟨_, _, rfl, h⟩)
theorem go_X2_holds_110 {X : bi_X} {d : Nat} {K : Int32 → bi_St → Prop} {E : Nat → bi_St → Prop}  {s : bi_St}   (h : K (0 : Int32) s) : at_X2_holds_110 X (d + 1) K E s  := by
  show bi_T _ _ _ _ _
  refine bi_Tr 1 (s' := (111, [], [.int (0 : Int32)], st_mm s)) rfl ?_
  exact bi_Tv rfl rfl (Or.inl ⟨_, _, rfl, h⟩)
theorem go_X2_holds_192 {X : bi_X} {d : Nat} {K : Int32 → bi_St → Prop} {E : Nat → bi_St → Prop}  {s : bi_St} {y3 : Int32} {y4 : Int32} {y5 : Int32} {b1 : Nat} (hb1 : st_isR b1) (h : at_X2_holds_42 X (d + 1) K E s ((y3 + (1 : Int32))) (y4) ((y5 + (1 : Int32))) (b1)) : at_X2_holds_192 X (d + 1) K E s y3 y4 y5 b1 := by
  show bi_T _ _ _ _ _
  refine bi_Tr 3 (s' := (42, [(5, .int (y5 + (1 : Int32))), (3, .int (y3 + (1 : Int32))), (0, .ref 57), (1, .ref b1), (4, .int y4)], [], st_mm s)) rfl ?_
  exact bi_Tww h rfl rfl ⟨rfl, rfl, rfl, rfl, rfl, trivial⟩
/-- PolicyRows$Judge.holds(LPolicyRows$Rules;I)Z -/
theorem en_X2_holds {X : bi_X} {d : Nat} {K : Int32 → bi_St → Prop} {E : Nat → bi_St → Prop} {s : bi_St} {a1 : Nat} {x1 : Int32} (ha1 : st_isR a1) (h : cI X d 66 [.ref a1, .int x1] (st_p (st_p (st_p s 57 7 (0 : Int32)) 57 8 (0 : Int32)) 57 9 (0 : Int32)) (fun (r1 : Int32) (s1 : bi_St) => ((¬ r1 = 0) → bi_in x1 (st_rn a1) = true ∧ (cI X d 67 [.ref a1, .int x1] s1 (fun (r2 : Int32) (s2 : bi_St) => at_X2_holds_42 X (d + 1) K E s2 ((0 : Int32)) ((st_g s1 (a1 + 2) (x1).toNatClampNeg)) (r2) (a1)) (fun _ _ => False))) ∧ (¬ (¬ r1 = 0) → K (1 : Int32) s1)) (fun _ _ => False)) : cI X (d + 1) 34 [.ref 57, .ref a1, .int x1] s K E := by
  show bi_T _ _ _ _ _
  refine bi_Tr 2 (s' := (2, [(0, .ref 57), (1, .ref a1), (2, .int x1)], [.int (0 : Int32), .ref 57], st_mm s)) rfl ?_
  refine bi_Tpz rfl rfl rfl rfl rfl rfl ?_
  refine bi_Tr 8 (s' := (17, [(0, .ref 57), (1, .ref a1), (2, .int x1)], [.int x1, .ref a1], st_mm (st_p (st_p (st_p s 57 7 (0 : Int32)) 57 8 (0 : Int32)) 57 9 (0 : Int32)))) rfl ?_
  refine bi_TcI (as := [.ref a1, .int x1]) (bi_TcO rfl rfl rfl (st_kR0 ha1) rfl rfl) rfl ?_
  refine cI.mono h (fun r1 s1 h => ?_) (fun _ _ h => h.elim)
  refine bi_Tr 1 (s' := ((if ¬ r1 = 0 then 25 else 23), [(0, .ref 57), (1, .ref a1), (2, .int x1)], [], st_mm s1)) rfl (bi_Tif (fun hc => ?_) (fun hc => ?_))
  · have h := h.1 hc
    refine bi_Tr 3 (s' := (28, [(3, .int (0 : Int32)), (0, .ref 57), (1, .ref a1), (2, .int x1)], [.ref a1], st_mm s1)) rfl ?_
    refine bi_Tgr rfl rfl rfl (st_kR0 ha1) (st_pR1 ha1) ?_
    refine bi_Tr 1 (s' := (32, [(3, .int (0 : Int32)), (0, .ref 57), (1, .ref a1), (2, .int x1)], [.int x1, .ref (a1 + 2)], st_mm s1)) rfl ?_
    obtain ⟨hi, h⟩ := h
    refine bi_Tial rfl (by have := ha1; simp only [st_isR] at this; rcases this with h | h | h <;> rw [h] <;> rfl) (st_kR2 ha1) hi ?_
    refine bi_Tr 3 (s' := (37, [(4, .int (st_g s1 (a1 + 2) (x1).toNatClampNeg)), (3, .int (0 : Int32)), (0, .ref 57), (1, .ref a1), (2, .int x1)], [.int x1, .ref a1], st_mm s1)) rfl ?_
    refine bi_TcI (as := [.ref a1, .int x1]) (bi_TcO rfl rfl rfl (st_kR0 ha1) rfl rfl) rfl ?_
    refine cI.mono h (fun r2 s2 h => ?_) (fun _ _ h => h.elim)
    refine bi_Tr 1 (s' := (42, [(5, .int r2), (4, .int (st_g s1 (a1 + 2) (x1).toNatClampNeg)), (3, .int (0 : Int32)), (0, .ref 57), (1, .ref a1), (2, .int x1)], [], st_mm s2)) rfl ?_
    exact bi_Tww h rfl rfl ⟨rfl, rfl, rfl, rfl, rfl, trivial⟩
  · have h := h.2 hc
    refine bi_Tr 1 (s' := (24, [(0, .ref 57), (1, .ref a1), (2, .int x1)], [.int (1 : Int32)], st_mm s1)) rfl ?_
    exact bi_Tv rfl rfl (Or.inl ⟨_, _, rfl, h⟩)
/-- PolicyRows$Judge.ofNone(II)I -/
theorem en_X2_ofNone {X : bi_X} {d : Nat} {K : Int32 → bi_St → Prop} {E : Nat → bi_St → Prop} {s : bi_St} {x0 : Int32} {x1 : Int32}  (h : ((x0 = (1 : Int32)) → (((4 : Int32) ≤ x1) → K (0 : Int32) s) ∧ (¬ ((4 : Int32) ≤ x1) → bi_in x1 4 = true ∧ (K (st_g s 59 (x1).toNatClampNeg) s))) ∧ (¬ (x0 = (1 : Int32)) → ((x0 = (2 : Int32)) → K (st_g s 57 5) s) ∧ (¬ (x0 = (2 : Int32)) → ((x0 = (3 : Int32)) → K (((st_g s 57 6) >>> (x1 &&& 31)) &&& (1 : Int32)) s) ∧ (¬ (x0 = (3 : Int32)) → K x1 s)))) : cI X d 35 [.ref 57, .int x0, .int x1] s K E := by
  show bi_T _ _ _ _ _
  refine bi_Tr 1 (s' := (1, [(0, .ref 57), (1, .int x0), (2, .int x1)], [.int x0], st_mm s)) rfl ?_
  refine bi_Tsw rfl (fun t ht => ?_) (bi_swn (b := 58) rfl (by decide) (by decide))
  by_cases hc : x0 = (1 : Int32)
  · rw [hc] at ht; cases ht
    have h := h.1 hc
    refine bi_Tr 3 (s' := ((if (4 : Int32) ≤ x1 then 42 else 33), [(0, .ref 57), (1, .int x0), (2, .int x1)], [], st_mm s)) rfl (bi_Tif (fun hc => ?_) (fun hc => ?_))
    · have h := h.1 hc
      refine bi_Tr 1 (s' := (43, [(0, .ref 57), (1, .int x0), (2, .int x1)], [.int (0 : Int32)], st_mm s)) rfl ?_
      exact bi_Tv rfl rfl (Or.inl ⟨_, _, rfl, h⟩)
    · have h := h.2 hc
      refine bi_Tr 3 (s' := (38, [(0, .ref 57), (1, .int x0), (2, .int x1)], [.int x1, .ref 59], st_mm s)) rfl ?_
      obtain ⟨hi, h⟩ := h
      refine bi_Tial rfl rfl rfl hi ?_
      refine bi_Tr 1 (s' := (43, [(0, .ref 57), (1, .int x0), (2, .int x1)], [.int (st_g s 59 (x1).toNatClampNeg)], st_mm s)) rfl ?_
      exact bi_Tv rfl rfl (Or.inl ⟨_, _, rfl, h⟩)
  have h := h.2 hc
  have hn1 := lv_neT hc (a := 1) rfl
  by_cases hc : x0 = (2 : Int32)
  · rw [hc] at ht; cases ht
    have h := h.1 hc
    refine bi_Tr 2 (s' := (48, [(0, .ref 57), (1, .int x0), (2, .int x1)], [.int (st_g s 57 5)], st_mm s)) rfl ?_
    exact bi_Tv rfl rfl (Or.inl ⟨_, _, rfl, h⟩)
  have h := h.2 hc
  have hn2 := lv_neT hc (a := 2) rfl
  by_cases hc : x0 = (3 : Int32)
  · rw [hc] at ht; cases ht
    have h := h.1 hc
    refine bi_Tr 6 (s' := (57, [(0, .ref 57), (1, .int x0), (2, .int x1)], [.int (((st_g s 57 6) >>> (x1 &&& 31)) &&& (1 : Int32))], st_mm s)) rfl ?_
    exact bi_Tv rfl rfl (Or.inl ⟨_, _, rfl, h⟩)
  have h := h.2 hc
  have hn3 := lv_neT hc (a := 3) rfl
  have ht : bi_tg 1 57 = some t := bi_swd ht (fun h1 h2 => by omega)
  cases ht
  refine bi_Tr 1 (s' := (59, [(0, .ref 57), (1, .int x0), (2, .int x1)], [.int x1], st_mm s)) rfl ?_
  exact bi_Tv rfl rfl (Or.inl ⟨_, _, rfl, h⟩)
/-- PolicyRows$Judge.ofOne(II)I -/
theorem en_X2_ofOne {X : bi_X} {d : Nat} {K : Int32 → bi_St → Prop} {E : Nat → bi_St → Prop} {s : bi_St} {x0 : Int32} {x1 : Int32}  (h : ((¬ x0 = (5 : Int32)) → K x1 (st_p (st_p s 57 8 ((st_g s 57 8) + (1 : Int32))) 57 9 ((st_g (st_p s 57 8 ((st_g s 57 8) + (1 : Int32))) 57 9) + x1))) ∧ (¬ (¬ x0 = (5 : Int32)) → ((¬ x1 = 0) → K (0 : Int32) s) ∧ (¬ (¬ x1 = 0) → K (1 : Int32) s))) : cI X d 36 [.ref 57, .int x0, .int x1] s K E := by
  show bi_T _ _ _ _ _
  refine bi_Tr 3 (s' := ((if ¬ x0 = (5 : Int32) then 15 else 5), [(0, .ref 57), (1, .int x0), (2, .int x1)], [], st_mm s)) rfl (bi_Tif (fun hc => ?_) (fun hc => ?_))
  · have h := h.1 hc
    refine bi_Tr 13 (s' := (36, [(0, .ref 57), (1, .int x0), (2, .int x1)], [.int x1], st_mm (st_p (st_p s 57 8 ((st_g s 57 8) + (1 : Int32))) 57 9 ((st_g (st_p s 57 8 ((st_g s 57 8) + (1 : Int32))) 57 9) + x1)))) rfl ?_
    exact bi_Tv rfl rfl (Or.inl ⟨_, _, rfl, h⟩)
  · have h := h.2 hc
    refine bi_Tr 2 (s' := ((if ¬ x1 = 0 then 13 else 9), [(0, .ref 57), (1, .int x0), (2, .int x1)], [], st_mm s)) rfl (bi_Tif (fun hc => ?_) (fun hc => ?_))
    · have h := h.1 hc
      refine bi_Tr 1 (s' := (14, [(0, .ref 57), (1, .int x0), (2, .int x1)], [.int (0 : Int32)], st_mm s)) rfl ?_
      exact bi_Tv rfl rfl (Or.inl ⟨_, _, rfl, h⟩)
    · have h := h.2 hc
      refine bi_Tr 2 (s' := (14, [(0, .ref 57), (1, .int x0), (2, .int x1)], [.int (1 : Int32)], st_mm s)) rfl ?_
      exact bi_Tv rfl rfl (Or.inl ⟨_, _, rfl, h⟩)
/-- PolicyRows$Judge.ofTwo(III)I -/
theorem en_X2_ofTwo {X : bi_X} {d : Nat} {K : Int32 → bi_St → Prop} {E : Nat → bi_St → Prop} {s : bi_St} {x0 : Int32} {x1 : Int32} {x2 : Int32}  (h : ((x0 = (6 : Int32)) → K (x1 + x2) s) ∧ (¬ (x0 = (6 : Int32)) → ((x0 = (7 : Int32)) → K (x1 - x2) s) ∧ (¬ (x0 = (7 : Int32)) → ((x0 = (8 : Int32)) → K (x1 * x2) s) ∧ (¬ (x0 = (8 : Int32)) → ((x0 = (9 : Int32)) → ((¬ x2 = 0) → bi_bool ((st_g s 57 7) ||| (0 : Int32)) = true ∧ (((¬ x2 = 0) → ¬ x2 = 0 ∧ (K (x1 / x2) (st_p s 57 7 ((st_g s 57 7) ||| (0 : Int32))))) ∧ (¬ (¬ x2 = 0) → K (0 : Int32) (st_p s 57 7 ((st_g s 57 7) ||| (0 : Int32)))))) ∧ (¬ (¬ x2 = 0) → bi_bool ((st_g s 57 7) ||| (1 : Int32)) = true ∧ (((¬ x2 = 0) → ¬ x2 = 0 ∧ (K (x1 / x2) (st_p s 57 7 ((st_g s 57 7) ||| (1 : Int32))))) ∧ (¬ (¬ x2 = 0) → K (0 : Int32) (st_p s 57 7 ((st_g s 57 7) ||| (1 : Int32))))))) ∧ (¬ (x0 = (9 : Int32)) → ((x0 = (10 : Int32)) → ((x2 ≤ x1) → K (0 : Int32) s) ∧ (¬ (x2 ≤ x1) → K (1 : Int32) s)) ∧ (¬ (x0 = (10 : Int32)) → ((x0 = (11 : Int32)) → ((¬ x1 = x2) → K (0 : Int32) s) ∧ (¬ (¬ x1 = x2) → K (1 : Int32) s)) ∧ (¬ (x0 = (11 : Int32)) → ((x0 = (12 : Int32)) → ((x1 = 0) → K (0 : Int32) s) ∧ (¬ (x1 = 0) → ((x2 = 0) → K (0 : Int32) s) ∧ (¬ (x2 = 0) → K (1 : Int32) s))) ∧ (¬ (x0 = (12 : Int32)) → ((¬ x1 = 0) → K (1 : Int32) s) ∧ (¬ (¬ x1 = 0) → ((x2 = 0) → K (0 : Int32) s) ∧ (¬ (x2 = 0) → K (1 : Int32) s)))))))))) : cI X d 37 [.ref 57, .int x0, .int x1, .int x2] s K E := by
  show bi_T _ _ _ _ _
  refine bi_Tr 1 (s' := (1, [(0, .ref 57), (1, .int x0), (2, .int x1), (3, .int x2)], [.int x0], st_mm s)) rfl ?_
  refine bi_Tsw rfl (fun t ht => ?_) (bi_swn (b := 122) rfl (by decide) (by decide))
  by_cases hc : x0 = (6 : Int32)
  · rw [hc] at ht; cases ht
    have h := h.1 hc
    refine bi_Tr 3 (s' := (47, [(0, .ref 57), (1, .int x0), (2, .int x1), (3, .int x2)], [.int (x1 + x2)], st_mm s)) rfl ?_
    exact bi_Tv rfl rfl (Or.inl ⟨_, _, rfl, h⟩)
  have h := h.2 hc
  have hn6 := lv_neT hc (a := 6) rfl
  by_cases hc : x0 = (7 : Int32)
  · rw [hc] at ht; cases ht
    have h := h.1 hc
    refine bi_Tr 3 (s' := (51, [(0, .ref 57), (1, .int x0), (2, .int x1), (3, .int x2)], [.int (x1 - x2)], st_mm s)) rfl ?_
    exact bi_Tv rfl rfl (Or.inl ⟨_, _, rfl, h⟩)
  have h := h.2 hc
  have hn7 := lv_neT hc (a := 7) rfl
  by_cases hc : x0 = (8 : Int32)
  · rw [hc] at ht; cases ht
    have h := h.1 hc
    refine bi_Tr 3 (s' := (55, [(0, .ref 57), (1, .int x0), (2, .int x1), (3, .int x2)], [.int (x1 * x2)], st_mm s)) rfl ?_
    exact bi_Tv rfl rfl (Or.inl ⟨_, _, rfl, h⟩)
  have h := h.2 hc
  have hn8 := lv_neT hc (a := 8) rfl
  by_cases hc : x0 = (9 : Int32)
  · rw [hc] at ht; cases ht
    have h := h.1 hc
    refine bi_Tr 5 (s' := ((if ¬ x2 = 0 then 69 else 65), [(0, .ref 57), (1, .int x0), (2, .int x1), (3, .int x2)], [.int (st_g s 57 7), .ref 57], st_mm s)) rfl (bi_Tif (fun hc => ?_) (fun hc => ?_))
    · have h := h.1 hc
      refine bi_Tr 2 (s' := (71, [(0, .ref 57), (1, .int x0), (2, .int x1), (3, .int x2)], [.int ((st_g s 57 7) ||| (0 : Int32)), .ref 57], st_mm s)) rfl ?_
      obtain ⟨hi, h⟩ := h
      refine bi_Tpz rfl rfl rfl rfl rfl hi ?_
      refine bi_Tr 2 (s' := ((if ¬ x2 = 0 then 82 else 78), [(0, .ref 57), (1, .int x0), (2, .int x1), (3, .int x2)], [], st_mm (st_p s 57 7 ((st_g s 57 7) ||| (0 : Int32))))) rfl (bi_Tif (fun hc => ?_) (fun hc => ?_))
      · have h := h.1 hc
        refine bi_Tr 2 (s' := (84, [(0, .ref 57), (1, .int x0), (2, .int x1), (3, .int x2)], [.int x2, .int x1], st_mm (st_p s 57 7 ((st_g s 57 7) ||| (0 : Int32))))) rfl ?_
        obtain ⟨hi, h⟩ := h
        refine bi_Tdiv rfl hi ?_
        exact bi_Tv rfl rfl (Or.inl ⟨_, _, rfl, h⟩)
      · have h := h.2 hc
        refine bi_Tr 2 (s' := (85, [(0, .ref 57), (1, .int x0), (2, .int x1), (3, .int x2)], [.int (0 : Int32)], st_mm (st_p s 57 7 ((st_g s 57 7) ||| (0 : Int32))))) rfl ?_
        exact bi_Tv rfl rfl (Or.inl ⟨_, _, rfl, h⟩)
    · have h := h.2 hc
      refine bi_Tr 3 (s' := (71, [(0, .ref 57), (1, .int x0), (2, .int x1), (3, .int x2)], [.int ((st_g s 57 7) ||| (1 : Int32)), .ref 57], st_mm s)) rfl ?_
      obtain ⟨hi, h⟩ := h
      refine bi_Tpz rfl rfl rfl rfl rfl hi ?_
      refine bi_Tr 2 (s' := ((if ¬ x2 = 0 then 82 else 78), [(0, .ref 57), (1, .int x0), (2, .int x1), (3, .int x2)], [], st_mm (st_p s 57 7 ((st_g s 57 7) ||| (1 : Int32))))) rfl (bi_Tif (fun hc => ?_) (fun hc => ?_))
      · have h := h.1 hc
        refine bi_Tr 2 (s' := (84, [(0, .ref 57), (1, .int x0), (2, .int x1), (3, .int x2)], [.int x2, .int x1], st_mm (st_p s 57 7 ((st_g s 57 7) ||| (1 : Int32))))) rfl ?_
        obtain ⟨hi, h⟩ := h
        refine bi_Tdiv rfl hi ?_
        exact bi_Tv rfl rfl (Or.inl ⟨_, _, rfl, h⟩)
      · have h := h.2 hc
        refine bi_Tr 2 (s' := (85, [(0, .ref 57), (1, .int x0), (2, .int x1), (3, .int x2)], [.int (0 : Int32)], st_mm (st_p s 57 7 ((st_g s 57 7) ||| (1 : Int32))))) rfl ?_
        exact bi_Tv rfl rfl (Or.inl ⟨_, _, rfl, h⟩)
  have h := h.2 hc
  have hn9 := lv_neT hc (a := 9) rfl
  by_cases hc : x0 = (10 : Int32)
  · rw [hc] at ht; cases ht
    have h := h.1 hc
    refine bi_Tr 3 (s' := ((if x2 ≤ x1 then 95 else 91), [(0, .ref 57), (1, .int x0), (2, .int x1), (3, .int x2)], [], st_mm s)) rfl (bi_Tif (fun hc => ?_) (fun hc => ?_))
    · have h := h.1 hc
      refine bi_Tr 1 (s' := (96, [(0, .ref 57), (1, .int x0), (2, .int x1), (3, .int x2)], [.int (0 : Int32)], st_mm s)) rfl ?_
      exact bi_Tv rfl rfl (Or.inl ⟨_, _, rfl, h⟩)
    · have h := h.2 hc
      refine bi_Tr 2 (s' := (96, [(0, .ref 57), (1, .int x0), (2, .int x1), (3, .int x2)], [.int (1 : Int32)], st_mm s)) rfl ?_
      exact bi_Tv rfl rfl (Or.inl ⟨_, _, rfl, h⟩)
  have h := h.2 hc
  have hn10 := lv_neT hc (a := 10) rfl
  by_cases hc : x0 = (11 : Int32)
  · rw [hc] at ht; cases ht
    have h := h.1 hc
    refine bi_Tr 3 (s' := ((if ¬ x1 = x2 then 106 else 102), [(0, .ref 57), (1, .int x0), (2, .int x1), (3, .int x2)], [], st_mm s)) rfl (bi_Tif (fun hc => ?_) (fun hc => ?_))
    · have h := h.1 hc
      refine bi_Tr 1 (s' := (107, [(0, .ref 57), (1, .int x0), (2, .int x1), (3, .int x2)], [.int (0 : Int32)], st_mm s)) rfl ?_
      exact bi_Tv rfl rfl (Or.inl ⟨_, _, rfl, h⟩)
    · have h := h.2 hc
      refine bi_Tr 2 (s' := (107, [(0, .ref 57), (1, .int x0), (2, .int x1), (3, .int x2)], [.int (1 : Int32)], st_mm s)) rfl ?_
      exact bi_Tv rfl rfl (Or.inl ⟨_, _, rfl, h⟩)
  have h := h.2 hc
  have hn11 := lv_neT hc (a := 11) rfl
  by_cases hc : x0 = (12 : Int32)
  · rw [hc] at ht; cases ht
    have h := h.1 hc
    refine bi_Tr 2 (s' := ((if x1 = 0 then 120 else 112), [(0, .ref 57), (1, .int x0), (2, .int x1), (3, .int x2)], [], st_mm s)) rfl (bi_Tif (fun hc => ?_) (fun hc => ?_))
    · have h := h.1 hc
      refine bi_Tr 1 (s' := (121, [(0, .ref 57), (1, .int x0), (2, .int x1), (3, .int x2)], [.int (0 : Int32)], st_mm s)) rfl ?_
      exact bi_Tv rfl rfl (Or.inl ⟨_, _, rfl, h⟩)
    · have h := h.2 hc
      refine bi_Tr 2 (s' := ((if x2 = 0 then 120 else 116), [(0, .ref 57), (1, .int x0), (2, .int x1), (3, .int x2)], [], st_mm s)) rfl (bi_Tif (fun hc => ?_) (fun hc => ?_))
      · have h := h.1 hc
        refine bi_Tr 1 (s' := (121, [(0, .ref 57), (1, .int x0), (2, .int x1), (3, .int x2)], [.int (0 : Int32)], st_mm s)) rfl ?_
        exact bi_Tv rfl rfl (Or.inl ⟨_, _, rfl, h⟩)
      · have h := h.2 hc
        refine bi_Tr 2 (s' := (121, [(0, .ref 57), (1, .int x0), (2, .int x1), (3, .int x2)], [.int (1 : Int32)], st_mm s)) rfl ?_
        exact bi_Tv rfl rfl (Or.inl ⟨_, _, rfl, h⟩)
  have h := h.2 hc
  have hn12 := lv_neT hc (a := 12) rfl
  have ht : bi_tg 1 121 = some t := bi_swd ht (fun h1 h2 => by omega)
  cases ht
  refine bi_Tr 2 (s' := ((if ¬ x1 = 0 then 130 else 126), [(0, .ref 57), (1, .int x0), (2, .int x1), (3, .int x2)], [], st_mm s)) rfl (bi_Tif (fun hc => ?_) (fun hc => ?_))
  · have h := h.1 hc
    refine bi_Tr 2 (s' := (135, [(0, .ref 57), (1, .int x0), (2, .int x1), (3, .int x2)], [.int (1 : Int32)], st_mm s)) rfl ?_
    exact bi_Tv rfl rfl (Or.inl ⟨_, _, rfl, h⟩)
  · have h := h.2 hc
    refine bi_Tr 2 (s' := ((if x2 = 0 then 134 else 130), [(0, .ref 57), (1, .int x0), (2, .int x1), (3, .int x2)], [], st_mm s)) rfl (bi_Tif (fun hc => ?_) (fun hc => ?_))
    · have h := h.1 hc
      refine bi_Tr 1 (s' := (135, [(0, .ref 57), (1, .int x0), (2, .int x1), (3, .int x2)], [.int (0 : Int32)], st_mm s)) rfl ?_
      exact bi_Tv rfl rfl (Or.inl ⟨_, _, rfl, h⟩)
    · have h := h.2 hc
      refine bi_Tr 2 (s' := (135, [(0, .ref 57), (1, .int x0), (2, .int x1), (3, .int x2)], [.int (1 : Int32)], st_mm s)) rfl ?_
      exact bi_Tv rfl rfl (Or.inl ⟨_, _, rfl, h⟩)
/-- PolicyRows$Plan.outcome(I)I -/
theorem en_X3_outcome {X : bi_X} {d : Nat} {K : Int32 → bi_St → Prop} {E : Nat → bi_St → Prop} {s : bi_St} {x0 : Int32}  (h : ((x0 = (0 : Int32)) → ((¬ (st_g s 65 4) = (-1 : Int32)) → K (-1 : Int32) s) ∧ (¬ (¬ (st_g s 65 4) = (-1 : Int32)) → cI X d 268 [.int (st_g s 65 3)] s (fun (r1 : Int32) (s1 : bi_St) => K r1 s1) (fun _ _ => False))) ∧ (¬ (x0 = (0 : Int32)) → ((x0 = (1 : Int32)) → K (st_g s 65 3) s) ∧ (¬ (x0 = (1 : Int32)) → ((x0 = (2 : Int32)) → K (st_g s 65 4) s) ∧ (¬ (x0 = (2 : Int32)) → ((x0 = (3 : Int32)) → K (st_g s 65 5) s) ∧ (¬ (x0 = (3 : Int32)) → ((x0 = (4 : Int32)) → K (st_g s 65 2) s) ∧ (¬ (x0 = (4 : Int32)) → ((x0 = (5 : Int32)) → K (st_g s 65 6) s) ∧ (¬ (x0 = (5 : Int32)) → ((x0 = (6 : Int32)) → K (st_g s 65 7) s) ∧ (¬ (x0 = (6 : Int32)) → K (st_g s 65 8) s)))))))) : cI X (d + 1) 39 [.ref 65, .int x0] s K E := by
  show bi_T _ _ _ _ _
  refine bi_Tr 1 (s' := (1, [(0, .ref 65), (1, .int x0)], [.int x0], st_mm s)) rfl ?_
  refine bi_Tsw rfl (fun t ht => ?_) (bi_swn (b := 94) rfl (by decide) (by decide))
  by_cases hc : x0 = (0 : Int32)
  · rw [hc] at ht; cases ht
    have h := h.1 hc
    refine bi_Tr 4 (s' := ((if ¬ (st_g s 65 4) = (-1 : Int32) then 62 else 52), [(0, .ref 65), (1, .int x0)], [], st_mm s)) rfl (bi_Tif (fun hc => ?_) (fun hc => ?_))
    · have h := h.1 hc
      refine bi_Tr 1 (s' := (63, [(0, .ref 65), (1, .int x0)], [.int (-1 : Int32)], st_mm s)) rfl ?_
      exact bi_Tv rfl rfl (Or.inl ⟨_, _, rfl, h⟩)
    · have h := h.2 hc
      refine bi_Tr 2 (s' := (56, [(0, .ref 65), (1, .int x0)], [.int (st_g s 65 3)], st_mm s)) rfl ?_
      refine bi_TcI (as := [.int (st_g s 65 3)]) rfl rfl ?_
      refine cI.mono h (fun r1 s1 h => ?_) (fun _ _ h => h.elim)
      refine bi_Tr 1 (s' := (63, [(0, .ref 65), (1, .int x0)], [.int r1], st_mm s1)) rfl ?_
      exact bi_Tv rfl rfl (Or.inl ⟨_, _, rfl, h⟩)
  have h := h.2 hc
  have hn0 := lv_neT hc (a := 0) rfl
  by_cases hc : x0 = (1 : Int32)
  · rw [hc] at ht; cases ht
    have h := h.1 hc
    refine bi_Tr 2 (s' := (68, [(0, .ref 65), (1, .int x0)], [.int (st_g s 65 3)], st_mm s)) rfl ?_
    exact bi_Tv rfl rfl (Or.inl ⟨_, _, rfl, h⟩)
  have h := h.2 hc
  have hn1 := lv_neT hc (a := 1) rfl
  by_cases hc : x0 = (2 : Int32)
  · rw [hc] at ht; cases ht
    have h := h.1 hc
    refine bi_Tr 2 (s' := (73, [(0, .ref 65), (1, .int x0)], [.int (st_g s 65 4)], st_mm s)) rfl ?_
    exact bi_Tv rfl rfl (Or.inl ⟨_, _, rfl, h⟩)
  have h := h.2 hc
  have hn2 := lv_neT hc (a := 2) rfl
  by_cases hc : x0 = (3 : Int32)
  · rw [hc] at ht; cases ht
    have h := h.1 hc
    refine bi_Tr 2 (s' := (78, [(0, .ref 65), (1, .int x0)], [.int (st_g s 65 5)], st_mm s)) rfl ?_
    exact bi_Tv rfl rfl (Or.inl ⟨_, _, rfl, h⟩)
  have h := h.2 hc
  have hn3 := lv_neT hc (a := 3) rfl
  by_cases hc : x0 = (4 : Int32)
  · rw [hc] at ht; cases ht
    have h := h.1 hc
    refine bi_Tr 2 (s' := (83, [(0, .ref 65), (1, .int x0)], [.int (st_g s 65 2)], st_mm s)) rfl ?_
    exact bi_Tv rfl rfl (Or.inl ⟨_, _, rfl, h⟩)
  have h := h.2 hc
  have hn4 := lv_neT hc (a := 4) rfl
  by_cases hc : x0 = (5 : Int32)
  · rw [hc] at ht; cases ht
    have h := h.1 hc
    refine bi_Tr 2 (s' := (88, [(0, .ref 65), (1, .int x0)], [.int (st_g s 65 6)], st_mm s)) rfl ?_
    exact bi_Tv rfl rfl (Or.inl ⟨_, _, rfl, h⟩)
  have h := h.2 hc
  have hn5 := lv_neT hc (a := 5) rfl
  by_cases hc : x0 = (6 : Int32)
  · rw [hc] at ht; cases ht
    have h := h.1 hc
    refine bi_Tr 2 (s' := (93, [(0, .ref 65), (1, .int x0)], [.int (st_g s 65 7)], st_mm s)) rfl ?_
    exact bi_Tv rfl rfl (Or.inl ⟨_, _, rfl, h⟩)
  have h := h.2 hc
  have hn6 := lv_neT hc (a := 6) rfl
  have ht : bi_tg 1 93 = some t := bi_swd ht (fun h1 h2 => by omega)
  cases ht
  refine bi_Tr 2 (s' := (98, [(0, .ref 65), (1, .int x0)], [.int (st_g s 65 8)], st_mm s)) rfl ?_
  exact bi_Tv rfl rfl (Or.inl ⟨_, _, rfl, h⟩)
def at_X3_lay_76 (X : bi_X) (d : Nat) (K : bi_St → Prop) (E : Nat → bi_St → Prop) (s : bi_St) (y3 : Int32) (y6 : Int32) (b2 : Nat) : Prop := bi_T X d 40 (76, [(0, .ref 65), (2, .ref b2), (3, .int y3), (6, .int y6)], [], st_mm s) (st_RV K E)
theorem go_X3_lay_76 {X : bi_X} {d : Nat} {K : bi_St → Prop} {E : Nat → bi_St → Prop}  {s : bi_St} {y3 : Int32} {y6 : Int32} {b2 : Nat} (hb2 : st_isR b2) (h : (((st_g s b2 5) ≤ y6) → K s) ∧ (¬ ((st_g s b2 5) ≤ y6) → (((9 : Int32) ≤ (st_g s 65 2)) → K s) ∧ (¬ ((9 : Int32) ≤ (st_g s 65 2)) → bi_in (st_g s 65 2) 9 = true ∧ (st_isp (st_gp s (10 + ((st_g s 65 2)).toNatClampNeg)) ∧ (cV X d 87 [.ref (st_gp s (10 + ((st_g s 65 2)).toNatClampNeg)), .int (2 : Int32), .int y6, .int y3] s (fun (s5 : bi_St) => bi_in (st_g s5 65 2) 9 = true ∧ (st_isp (st_gp s5 (10 + ((st_g s5 65 2)).toNatClampNeg)) ∧ (cV X d 88 [.ref (st_gp s5 (10 + ((st_g s5 65 2)).toNatClampNeg)), .ref b2, .int y6] s5 (fun (s6 : bi_St) => at_X3_lay_76 X (d + 1) K E (st_p s6 65 2 ((st_g s6 65 2) + (1 : Int32))) (y3) ((y6 + (1 : Int32))) (b2)) (fun _ _ => False)))) (fun _ _ => False)))))) : at_X3_lay_76 X (d + 1) K E s y3 y6 b2 := by
  show bi_T _ _ _ _ _
  refine bi_Tr 2 (s' := (79, [(0, .ref 65), (2, .ref b2), (3, .int y3), (6, .int y6)], [.ref b2, .int y6], st_mm s)) rfl ?_
  refine bi_Tgi (o := 0) rfl rfl rfl (st_kR0 hb2) ?_
  refine bi_Tr 1 (s' := ((if (st_g s b2 5) ≤ y6 then 141 else 85), [(0, .ref 65), (2, .ref b2), (3, .int y3), (6, .int y6)], [], st_mm s)) rfl (bi_Tif (fun hc => ?_) (fun hc => ?_))
  · have h := h.1 hc
    exact bi_Tv rfl rfl (Or.inl ⟨_, rfl, h⟩)
  · have h := h.2 hc
    refine bi_Tr 4 (s' := ((if (9 : Int32) ≤ (st_g s 65 2) then 141 else 94), [(0, .ref 65), (2, .ref b2), (3, .int y3), (6, .int y6)], [], st_mm s)) rfl (bi_Tif (fun hc => ?_) (fun hc => ?_))
    · have h := h.1 hc
      exact bi_Tv rfl rfl (Or.inl ⟨_, rfl, h⟩)
    · have h := h.2 hc
      refine bi_Tr 4 (s' := (102, [(0, .ref 65), (2, .ref b2), (3, .int y3), (6, .int y6)], [.int (st_g s 65 2), .ref 66], st_mm s)) rfl ?_
      obtain ⟨hi, h⟩ := h
      refine bi_Taal rfl hi ?_
      obtain ⟨h32q2_103, h⟩ := h
      refine bi_Tr 3 (s' := (107, [(0, .ref 65), (2, .ref b2), (3, .int y3), (6, .int y6)], [.int y3, .int y6, .int (2 : Int32), .ref (st_gp s (10 + ((st_g s 65 2)).toNatClampNeg))], st_mm s)) rfl ?_
      refine bi_TcV (as := [.ref (st_gp s (10 + ((st_g s 65 2)).toNatClampNeg)), .int (2 : Int32), .int y6, .int y3]) (bi_TcO rfl rfl rfl (st_kp0 h32q2_103) rfl rfl) rfl ?_
      refine cV.mono h (fun s5 h => ?_) (fun _ _ h => h.elim)
      refine bi_Tr 4 (s' := (118, [(0, .ref 65), (2, .ref b2), (3, .int y3), (6, .int y6)], [.int (st_g s5 65 2), .ref 66], st_mm s5)) rfl ?_
      obtain ⟨hi, h⟩ := h
      refine bi_Taal rfl hi ?_
      obtain ⟨h33q2_119, h⟩ := h
      refine bi_Tr 2 (s' := (122, [(0, .ref 65), (2, .ref b2), (3, .int y3), (6, .int y6)], [.int y6, .ref b2, .ref (st_gp s5 (10 + ((st_g s5 65 2)).toNatClampNeg))], st_mm s5)) rfl ?_
      refine bi_TcV (as := [.ref (st_gp s5 (10 + ((st_g s5 65 2)).toNatClampNeg)), .ref b2, .int y6]) (bi_TcO rfl rfl rfl (st_kp0 h33q2_119) rfl rfl) rfl ?_
      refine cV.mono h (fun s6 h => ?_) (fun _ _ h => h.elim)
      refine bi_Tr 8 (s' := (76, [(6, .int (y6 + (1 : Int32))), (0, .ref 65), (2, .ref b2), (3, .int y3)], [], st_mm (st_p s6 65 2 ((st_g s6 65 2) + (1 : Int32))))) rfl ?_
      exact bi_Tww h rfl rfl ⟨rfl, rfl, rfl, rfl, trivial⟩
/-- PolicyRows$Plan.lay(LPolicyRows$Judge;LPolicyRows$Rules;II)V -/
theorem en_X3_lay {X : bi_X} {d : Nat} {K : bi_St → Prop} {E : Nat → bi_St → Prop} {s : bi_St} {a2 : Nat} {x2 : Int32} {x3 : Int32} (ha2 : st_isR a2) (h : st_isB (st_gp (st_p s 65 1 (1 : Int32)) 7) ∧ (cI X d 41 [.ref (st_gp (st_p s 65 1 (1 : Int32)) 7), .int x3] (st_p s 65 1 (1 : Int32)) (fun (r1 : Int32) (s1 : bi_St) => st_isB (st_gp s1 7) ∧ (cI X d 42 [.ref 65, .ref (st_gp s1 7), .int x2, .int x3, .int r1] s1 (fun (r2 : Int32) (s2 : bi_St) => bi_in (0 : Int32) 9 = true ∧ (st_isp (st_gp (st_p s2 65 8 r2) (10 + ((0 : Int32)).toNatClampNeg)) ∧ (cV X d 87 [.ref (st_gp (st_p s2 65 8 r2) (10 + ((0 : Int32)).toNatClampNeg)), .int (0 : Int32), .int (-1 : Int32), .int (st_g (st_p s2 65 8 r2) 65 8)] (st_p s2 65 8 r2) (fun (s3 : bi_St) => bi_in (0 : Int32) 9 = true ∧ (st_isp (st_gp s3 (10 + ((0 : Int32)).toNatClampNeg)) ∧ (cI X d 43 [.ref 57, .int (st_g s3 65 8)] s3 (fun (r4 : Int32) (s4 : bi_St) => at_X3_lay_76 X (d + 1) K E (st_p (st_p s4 (st_gp s3 (10 + ((0 : Int32)).toNatClampNeg)) 2 r4) 65 2 ((1 : Int32) + r1)) (x2) ((0 : Int32)) (a2)) (fun _ _ => False)))) (fun _ _ => False)))) (fun _ _ => False))) (fun _ _ => False))) : cV X (d + 1) 40 [.ref 65, .ref 57, .ref a2, .int x2, .int x3] s K E := by
  show bi_T _ _ _ _ _
  refine bi_Tr 2 (s' := (2, [(0, .ref 65), (1, .ref 57), (2, .ref a2), (3, .int x2), (4, .int x3)], [.int (1 : Int32), .ref 65], st_mm s)) rfl ?_
  refine bi_Tpz rfl rfl rfl rfl rfl rfl ?_
  obtain ⟨h0q0_6, h⟩ := h
  refine bi_Tr 3 (s' := (11, [(0, .ref 65), (1, .ref 57), (2, .ref a2), (3, .int x2), (4, .int x3)], [.int x3, .ref (st_gp (st_p s 65 1 (1 : Int32)) 7)], st_mm (st_p s 65 1 (1 : Int32)))) rfl ?_
  refine bi_TcI (as := [.ref (st_gp (st_p s 65 1 (1 : Int32)) 7), .int x3]) rfl rfl ?_
  refine cI.mono h (fun r1 s1 h => ?_) (fun _ _ h => h.elim)
  obtain ⟨h0q0_19, h⟩ := h
  refine bi_Tr 8 (s' := (27, [(5, .int r1), (0, .ref 65), (1, .ref 57), (2, .ref a2), (3, .int x2), (4, .int x3)], [.int r1, .int x3, .int x2, .ref (st_gp s1 7), .ref 65, .ref 65], st_mm s1)) rfl ?_
  refine bi_TcI (as := [.ref 65, .ref (st_gp s1 7), .int x2, .int x3, .int r1]) rfl rfl ?_
  refine cI.mono h (fun r2 s2 h => ?_) (fun _ _ h => h.elim)
  refine bi_Tr 4 (s' := (38, [(5, .int r1), (0, .ref 65), (1, .ref 57), (2, .ref a2), (3, .int x2), (4, .int x3)], [.int (0 : Int32), .ref 66], st_mm (st_p s2 65 8 r2))) rfl ?_
  obtain ⟨hi, h⟩ := h
  refine bi_Taal rfl hi ?_
  obtain ⟨h30q0_39, h⟩ := h
  refine bi_Tr 4 (s' := (45, [(5, .int r1), (0, .ref 65), (1, .ref 57), (2, .ref a2), (3, .int x2), (4, .int x3)], [.int (st_g (st_p s2 65 8 r2) 65 8), .int (-1 : Int32), .int (0 : Int32), .ref (st_gp (st_p s2 65 8 r2) (10 + ((0 : Int32)).toNatClampNeg))], st_mm (st_p s2 65 8 r2))) rfl ?_
  refine bi_TcV (as := [.ref (st_gp (st_p s2 65 8 r2) (10 + ((0 : Int32)).toNatClampNeg)), .int (0 : Int32), .int (-1 : Int32), .int (st_g (st_p s2 65 8 r2) 65 8)]) (bi_TcO rfl rfl rfl (st_kp0 h30q0_39) rfl rfl) rfl ?_
  refine cV.mono h (fun s3 h => ?_) (fun _ _ h => h.elim)
  refine bi_Tr 3 (s' := (53, [(5, .int r1), (0, .ref 65), (1, .ref 57), (2, .ref a2), (3, .int x2), (4, .int x3)], [.int (0 : Int32), .ref 66], st_mm s3)) rfl ?_
  obtain ⟨hi, h⟩ := h
  refine bi_Taal rfl hi ?_
  obtain ⟨h30q0_54, h⟩ := h
  refine bi_Tr 3 (s' := (59, [(5, .int r1), (0, .ref 65), (1, .ref 57), (2, .ref a2), (3, .int x2), (4, .int x3)], [.int (st_g s3 65 8), .ref 57, .ref (st_gp s3 (10 + ((0 : Int32)).toNatClampNeg))], st_mm s3)) rfl ?_
  refine bi_TcI (as := [.ref 57, .int (st_g s3 65 8)]) rfl rfl ?_
  refine cI.mono h (fun r4 s4 h => ?_) (fun _ _ h => h.elim)
  refine bi_Tpi rfl rfl rfl rfl (st_kp0 h30q0_54) ?_
  refine bi_Tr 7 (s' := (76, [(6, .int (0 : Int32)), (5, .int r1), (0, .ref 65), (1, .ref 57), (2, .ref a2), (3, .int x2), (4, .int x3)], [], st_mm (st_p (st_p s4 (st_gp s3 (10 + ((0 : Int32)).toNatClampNeg)) 2 r4) 65 2 ((1 : Int32) + r1)))) rfl ?_
  exact bi_Tww h rfl rfl ⟨rfl, rfl, rfl, rfl, trivial⟩
def at_X3_viewsDownFrom_4 (X : bi_X) (d : Nat) (K : Int32 → bi_St → Prop) (E : Nat → bi_St → Prop) (s : bi_St) (y2 : Int32) (y3 : Int32) (b0 : Nat) : Prop := bi_T X d 41 (4, [(0, .ref b0), (2, .int y2), (3, .int y3)], [], st_mm s) (st_RI K E)
theorem go_X3_viewsDownFrom_4 {X : bi_X} {d : Nat} {K : Int32 → bi_St → Prop} {E : Nat → bi_St → Prop}  {s : bi_St} {y2 : Int32} {y3 : Int32} {b0 : Nat} (hb0 : st_isB b0) (h : ((y3 < 0) → K y2 s) ∧ (¬ (y3 < 0) → (((3 : Int32) ≤ y3) → K y2 s) ∧ (¬ ((3 : Int32) ≤ y3) → (((3 : Int32) ≤ y2) → K y2 s) ∧ (¬ ((3 : Int32) ≤ y2) → bi_in y3 3 = true ∧ (at_X3_viewsDownFrom_4 X d K E s ((y2 + (1 : Int32))) ((st_g s (b0 + 6) (y3).toNatClampNeg)) (b0)))))) : at_X3_viewsDownFrom_4 X d K E s y2 y3 b0 := by
  show bi_T _ _ _ _ _
  refine bi_Tr 2 (s' := ((if y3 < 0 then 31 else 8), [(0, .ref b0), (2, .int y2), (3, .int y3)], [], st_mm s)) rfl (bi_Tif (fun hc => ?_) (fun hc => ?_))
  · have h := h.1 hc
    refine bi_Tr 1 (s' := (32, [(0, .ref b0), (2, .int y2), (3, .int y3)], [.int y2], st_mm s)) rfl ?_
    exact bi_Tv rfl rfl (Or.inl ⟨_, _, rfl, h⟩)
  · have h := h.2 hc
    refine bi_Tr 3 (s' := ((if (3 : Int32) ≤ y3 then 31 else 13), [(0, .ref b0), (2, .int y2), (3, .int y3)], [], st_mm s)) rfl (bi_Tif (fun hc => ?_) (fun hc => ?_))
    · have h := h.1 hc
      refine bi_Tr 1 (s' := (32, [(0, .ref b0), (2, .int y2), (3, .int y3)], [.int y2], st_mm s)) rfl ?_
      exact bi_Tv rfl rfl (Or.inl ⟨_, _, rfl, h⟩)
    · have h := h.2 hc
      refine bi_Tr 3 (s' := ((if (3 : Int32) ≤ y2 then 31 else 18), [(0, .ref b0), (2, .int y2), (3, .int y3)], [], st_mm s)) rfl (bi_Tif (fun hc => ?_) (fun hc => ?_))
      · have h := h.1 hc
        refine bi_Tr 1 (s' := (32, [(0, .ref b0), (2, .int y2), (3, .int y3)], [.int y2], st_mm s)) rfl ?_
        exact bi_Tv rfl rfl (Or.inl ⟨_, _, rfl, h⟩)
      · have h := h.2 hc
        refine bi_Tr 2 (s' := (22, [(2, .int (y2 + (1 : Int32))), (0, .ref b0), (3, .int y3)], [.ref b0], st_mm s)) rfl ?_
        refine bi_Tgr rfl rfl rfl (st_kB0 hb0) (st_pB11 hb0) ?_
        refine bi_Tr 1 (s' := (26, [(2, .int (y2 + (1 : Int32))), (0, .ref b0), (3, .int y3)], [.int y3, .ref (b0 + 6)], st_mm s)) rfl ?_
        obtain ⟨hi, h⟩ := h
        refine bi_Tial rfl (by have := hb0; simp only [st_isB] at this; rcases this with h | h <;> rw [h] <;> rfl) (st_kB6 hb0) hi ?_
        refine bi_Tr 2 (s' := (4, [(3, .int (st_g s (b0 + 6) (y3).toNatClampNeg)), (2, .int (y2 + (1 : Int32))), (0, .ref b0)], [], st_mm s)) rfl ?_
        exact bi_Tww h rfl rfl ⟨rfl, rfl, rfl, trivial⟩
/-- PolicyRows$Plan.viewsDownFrom(LPolicyRows$Book;I)I -/
theorem en_X3_viewsDownFrom {X : bi_X} {d : Nat} {K : Int32 → bi_St → Prop} {E : Nat → bi_St → Prop} {s : bi_St} {a1 : Nat} {x1 : Int32} (ha1 : st_isB a1) (h : at_X3_viewsDownFrom_4 X d K E s ((0 : Int32)) (x1) (a1)) : cI X d 41 [.ref a1, .int x1] s K E := by
  show bi_T _ _ _ _ _
  refine bi_Tr 4 (s' := (4, [(3, .int x1), (2, .int (0 : Int32)), (0, .ref a1), (1, .int x1)], [], st_mm s)) rfl ?_
  exact bi_Tww h rfl rfl ⟨rfl, rfl, rfl, trivial⟩
def at_X3_layWheres_10 (X : bi_X) (d : Nat) (K : Int32 → bi_St → Prop) (E : Nat → bi_St → Prop) (s : bi_St) (y5 : Int32) (y6 : Int32) (y7 : Int32) (b1 : Nat) : Prop := bi_T X d 42 (10, [(0, .ref 65), (1, .ref b1), (5, .int y5), (6, .int y6), (7, .int y7)], [], st_mm s) (st_RI K E)
def at_X3_layWheres_130 (X : bi_X) (d : Nat) (K : Int32 → bi_St → Prop) (E : Nat → bi_St → Prop) (s : bi_St) (y5 : Int32) : Prop := bi_T X d 42 (130, [(5, .int y5)], [], st_mm s) (st_RI K E)
theorem go_X3_layWheres_10 {X : bi_X} {d : Nat} {K : Int32 → bi_St → Prop} {E : Nat → bi_St → Prop}  {s : bi_St} {y5 : Int32} {y6 : Int32} {y7 : Int32} {b1 : Nat} (hb1 : st_isB b1) (h : ((y7 ≤ 0) → at_X3_layWheres_130 X (d + 1) K E s (y5)) ∧ (¬ (y7 ≤ 0) → ((y6 < 0) → at_X3_layWheres_130 X (d + 1) K E s (y5)) ∧ (¬ (y6 < 0) → (((3 : Int32) ≤ y6) → at_X3_layWheres_130 X (d + 1) K E s (y5)) ∧ (¬ ((3 : Int32) ≤ y6) → bi_in y6 3 = true ∧ (((¬ (st_g s (b1 + 5) (y6).toNatClampNeg) = (-1 : Int32)) → bi_in y6 3 = true ∧ (bi_in y7 9 = true ∧ (st_isp (st_gp s (10 + (y7).toNatClampNeg)) ∧ (cV X d 87 [.ref (st_gp s (10 + (y7).toNatClampNeg)), .int (1 : Int32), .int y6, .int (st_g s (b1 + 5) (y6).toNatClampNeg)] s (fun (s1 : bi_St) => bi_in y7 9 = true ∧ (st_isp (st_gp s1 (10 + (y7).toNatClampNeg)) ∧ (bi_in y6 3 = true ∧ (cV X d 88 [.ref (st_gp s1 (10 + (y7).toNatClampNeg)), .ref (b1 + 8), .int (st_g s1 (b1 + 7) (y6).toNatClampNeg)] s1 (fun (s2 : bi_St) => bi_in y7 9 = true ∧ (st_isp (st_gp s2 (10 + (y7).toNatClampNeg)) ∧ (cI X d 160 [.int (st_g s2 b1 9), .int y6] s2 (fun (r3 : Int32) (s3 : bi_St) => ((¬ r3 = (1 : Int32)) → bi_in y6 3 = true ∧ (at_X3_layWheres_10 X (d + 1) K E (st_p s3 (st_gp s2 (10 + (y7).toNatClampNeg)) 6 (0 : Int32)) ((st_g s (b1 + 5) (y6).toNatClampNeg)) ((st_g (st_p s3 (st_gp s2 (10 + (y7).toNatClampNeg)) 6 (0 : Int32)) (b1 + 6) (y6).toNatClampNeg)) ((y7 + (-1 : Int32))) (b1))) ∧ (¬ (¬ r3 = (1 : Int32)) → bi_in y6 3 = true ∧ (at_X3_layWheres_10 X (d + 1) K E (st_p s3 (st_gp s2 (10 + (y7).toNatClampNeg)) 6 (1 : Int32)) ((st_g s (b1 + 5) (y6).toNatClampNeg)) ((st_g (st_p s3 (st_gp s2 (10 + (y7).toNatClampNeg)) 6 (1 : Int32)) (b1 + 6) (y6).toNatClampNeg)) ((y7 + (-1 : Int32))) (b1)))) (fun _ _ => False)))) (fun _ _ => False))))) (fun _ _ => False))))) ∧ (¬ (¬ (st_g s (b1 + 5) (y6).toNatClampNeg) = (-1 : Int32)) → bi_in y7 9 = true ∧ (st_isp (st_gp s (10 + (y7).toNatClampNeg)) ∧ (cV X d 87 [.ref (st_gp s (10 + (y7).toNatClampNeg)), .int (1 : Int32), .int y6, .int y5] s (fun (s4 : bi_St) => bi_in y7 9 = true ∧ (st_isp (st_gp s4 (10 + (y7).toNatClampNeg)) ∧ (bi_in y6 3 = true ∧ (cV X d 88 [.ref (st_gp s4 (10 + (y7).toNatClampNeg)), .ref (b1 + 8), .int (st_g s4 (b1 + 7) (y6).toNatClampNeg)] s4 (fun (s5 : bi_St) => bi_in y7 9 = true ∧ (st_isp (st_gp s5 (10 + (y7).toNatClampNeg)) ∧ (cI X d 160 [.int (st_g s5 b1 9), .int y6] s5 (fun (r6 : Int32) (s6 : bi_St) => ((¬ r6 = (1 : Int32)) → bi_in y6 3 = true ∧ (at_X3_layWheres_10 X (d + 1) K E (st_p s6 (st_gp s5 (10 + (y7).toNatClampNeg)) 6 (0 : Int32)) (y5) ((st_g (st_p s6 (st_gp s5 (10 + (y7).toNatClampNeg)) 6 (0 : Int32)) (b1 + 6) (y6).toNatClampNeg)) ((y7 + (-1 : Int32))) (b1))) ∧ (¬ (¬ r6 = (1 : Int32)) → bi_in y6 3 = true ∧ (at_X3_layWheres_10 X (d + 1) K E (st_p s6 (st_gp s5 (10 + (y7).toNatClampNeg)) 6 (1 : Int32)) (y5) ((st_g (st_p s6 (st_gp s5 (10 + (y7).toNatClampNeg)) 6 (1 : Int32)) (b1 + 6) (y6).toNatClampNeg)) ((y7 + (-1 : Int32))) (b1)))) (fun _ _ => False)))) (fun _ _ => False))))) (fun _ _ => False))))))))) : at_X3_layWheres_10 X (d + 1) K E s y5 y6 y7 b1 := by
  show bi_T _ _ _ _ _
  refine bi_Tr 2 (s' := ((if y7 ≤ 0 then 130 else 15), [(0, .ref 65), (1, .ref b1), (5, .int y5), (6, .int y6), (7, .int y7)], [], st_mm s)) rfl (bi_Tif (fun hc => ?_) (fun hc => ?_))
  · have h := h.1 hc
    exact bi_Tww h rfl rfl ⟨rfl, trivial⟩
  · have h := h.2 hc
    refine bi_Tr 2 (s' := ((if y6 < 0 then 130 else 20), [(0, .ref 65), (1, .ref b1), (5, .int y5), (6, .int y6), (7, .int y7)], [], st_mm s)) rfl (bi_Tif (fun hc => ?_) (fun hc => ?_))
    · have h := h.1 hc
      exact bi_Tww h rfl rfl ⟨rfl, trivial⟩
    · have h := h.2 hc
      refine bi_Tr 3 (s' := ((if (3 : Int32) ≤ y6 then 130 else 26), [(0, .ref 65), (1, .ref b1), (5, .int y5), (6, .int y6), (7, .int y7)], [], st_mm s)) rfl (bi_Tif (fun hc => ?_) (fun hc => ?_))
      · have h := h.1 hc
        exact bi_Tww h rfl rfl ⟨rfl, trivial⟩
      · have h := h.2 hc
        refine bi_Tr 1 (s' := (27, [(0, .ref 65), (1, .ref b1), (5, .int y5), (6, .int y6), (7, .int y7)], [.ref b1], st_mm s)) rfl ?_
        refine bi_Tgr rfl rfl rfl (st_kB0 hb1) (st_pB10 hb1) ?_
        refine bi_Tr 1 (s' := (32, [(0, .ref 65), (1, .ref b1), (5, .int y5), (6, .int y6), (7, .int y7)], [.int y6, .ref (b1 + 5)], st_mm s)) rfl ?_
        obtain ⟨hi, h⟩ := h
        refine bi_Tial rfl (by have := hb1; simp only [st_isB] at this; rcases this with h | h <;> rw [h] <;> rfl) (st_kB5 hb1) hi ?_
        refine bi_Tr 2 (s' := ((if ¬ (st_g s (b1 + 5) (y6).toNatClampNeg) = (-1 : Int32) then 42 else 37), [(0, .ref 65), (1, .ref b1), (5, .int y5), (6, .int y6), (7, .int y7)], [], st_mm s)) rfl (bi_Tif (fun hc => ?_) (fun hc => ?_))
        · have h := h.1 hc
          refine bi_Tr 1 (s' := (43, [(0, .ref 65), (1, .ref b1), (5, .int y5), (6, .int y6), (7, .int y7)], [.ref b1], st_mm s)) rfl ?_
          refine bi_Tgr rfl rfl rfl (st_kB0 hb1) (st_pB10 hb1) ?_
          refine bi_Tr 1 (s' := (48, [(0, .ref 65), (1, .ref b1), (5, .int y5), (6, .int y6), (7, .int y7)], [.int y6, .ref (b1 + 5)], st_mm s)) rfl ?_
          obtain ⟨hi, h⟩ := h
          refine bi_Tial rfl (by have := hb1; simp only [st_isB] at this; rcases this with h | h <;> rw [h] <;> rfl) (st_kB5 hb1) hi ?_
          refine bi_Tr 4 (s' := (57, [(5, .int (st_g s (b1 + 5) (y6).toNatClampNeg)), (0, .ref 65), (1, .ref b1), (6, .int y6), (7, .int y7)], [.int y7, .ref 66], st_mm s)) rfl ?_
          obtain ⟨hi, h⟩ := h
          refine bi_Taal rfl hi ?_
          obtain ⟨h42q4_58, h⟩ := h
          refine bi_Tr 3 (s' := (63, [(5, .int (st_g s (b1 + 5) (y6).toNatClampNeg)), (0, .ref 65), (1, .ref b1), (6, .int y6), (7, .int y7)], [.int (st_g s (b1 + 5) (y6).toNatClampNeg), .int y6, .int (1 : Int32), .ref (st_gp s (10 + (y7).toNatClampNeg))], st_mm s)) rfl ?_
          refine bi_TcV (as := [.ref (st_gp s (10 + (y7).toNatClampNeg)), .int (1 : Int32), .int y6, .int (st_g s (b1 + 5) (y6).toNatClampNeg)]) (bi_TcO rfl rfl rfl (st_kp0 h42q4_58) rfl rfl) rfl ?_
          refine cV.mono h (fun s1 h => ?_) (fun _ _ h => h.elim)
          refine bi_Tr 3 (s' := (72, [(5, .int (st_g s (b1 + 5) (y6).toNatClampNeg)), (0, .ref 65), (1, .ref b1), (6, .int y6), (7, .int y7)], [.int y7, .ref 66], st_mm s1)) rfl ?_
          obtain ⟨hi, h⟩ := h
          refine bi_Taal rfl hi ?_
          obtain ⟨h21q4_73, h⟩ := h
          refine bi_Tr 1 (s' := (74, [(5, .int (st_g s (b1 + 5) (y6).toNatClampNeg)), (0, .ref 65), (1, .ref b1), (6, .int y6), (7, .int y7)], [.ref b1, .ref (st_gp s1 (10 + (y7).toNatClampNeg))], st_mm s1)) rfl ?_
          refine bi_Tgr rfl rfl rfl (st_kB0 hb1) (st_pB13 hb1) ?_
          refine bi_Tr 1 (s' := (78, [(5, .int (st_g s (b1 + 5) (y6).toNatClampNeg)), (0, .ref 65), (1, .ref b1), (6, .int y6), (7, .int y7)], [.ref b1, .ref (b1 + 8), .ref (st_gp s1 (10 + (y7).toNatClampNeg))], st_mm s1)) rfl ?_
          refine bi_Tgr rfl rfl rfl (st_kB0 hb1) (st_pB12 hb1) ?_
          refine bi_Tr 1 (s' := (83, [(5, .int (st_g s (b1 + 5) (y6).toNatClampNeg)), (0, .ref 65), (1, .ref b1), (6, .int y6), (7, .int y7)], [.int y6, .ref (b1 + 7), .ref (b1 + 8), .ref (st_gp s1 (10 + (y7).toNatClampNeg))], st_mm s1)) rfl ?_
          obtain ⟨hi, h⟩ := h
          refine bi_Tial rfl (by have := hb1; simp only [st_isB] at this; rcases this with h | h <;> rw [h] <;> rfl) (st_kB7 hb1) hi ?_
          refine bi_TcV (as := [.ref (st_gp s1 (10 + (y7).toNatClampNeg)), .ref (b1 + 8), .int (st_g s1 (b1 + 7) (y6).toNatClampNeg)]) (bi_TcO rfl rfl rfl (st_kp0 h21q4_73) rfl rfl) rfl ?_
          refine cV.mono h (fun s2 h => ?_) (fun _ _ h => h.elim)
          refine bi_Tr 3 (s' := (93, [(5, .int (st_g s (b1 + 5) (y6).toNatClampNeg)), (0, .ref 65), (1, .ref b1), (6, .int y6), (7, .int y7)], [.int y7, .ref 66], st_mm s2)) rfl ?_
          obtain ⟨hi, h⟩ := h
          refine bi_Taal rfl hi ?_
          obtain ⟨h21q4_94, h⟩ := h
          refine bi_Tr 1 (s' := (95, [(5, .int (st_g s (b1 + 5) (y6).toNatClampNeg)), (0, .ref 65), (1, .ref b1), (6, .int y6), (7, .int y7)], [.ref b1, .ref (st_gp s2 (10 + (y7).toNatClampNeg))], st_mm s2)) rfl ?_
          refine bi_Tgi (o := 0) rfl rfl rfl (st_kB0 hb1) ?_
          refine bi_Tr 1 (s' := (100, [(5, .int (st_g s (b1 + 5) (y6).toNatClampNeg)), (0, .ref 65), (1, .ref b1), (6, .int y6), (7, .int y7)], [.int y6, .int (st_g s2 b1 9), .ref (st_gp s2 (10 + (y7).toNatClampNeg))], st_mm s2)) rfl ?_
          refine bi_TcI (as := [.int (st_g s2 b1 9), .int y6]) rfl rfl ?_
          refine cI.mono h (fun r3 s3 h => ?_) (fun _ _ h => h.elim)
          refine bi_Tr 2 (s' := ((if ¬ r3 = (1 : Int32) then 111 else 107), [(5, .int (st_g s (b1 + 5) (y6).toNatClampNeg)), (0, .ref 65), (1, .ref b1), (6, .int y6), (7, .int y7)], [.ref (st_gp s2 (10 + (y7).toNatClampNeg))], st_mm s3)) rfl (bi_Tif (fun hc => ?_) (fun hc => ?_))
          · have h := h.1 hc
            refine bi_Tr 1 (s' := (112, [(5, .int (st_g s (b1 + 5) (y6).toNatClampNeg)), (0, .ref 65), (1, .ref b1), (6, .int y6), (7, .int y7)], [.int (0 : Int32), .ref (st_gp s2 (10 + (y7).toNatClampNeg))], st_mm s3)) rfl ?_
            refine bi_Tpz rfl rfl rfl rfl (st_kp0 h21q4_94) rfl ?_
            refine bi_Tr 1 (s' := (116, [(5, .int (st_g s (b1 + 5) (y6).toNatClampNeg)), (0, .ref 65), (1, .ref b1), (6, .int y6), (7, .int y7)], [.ref b1], st_mm (st_p s3 (st_gp s2 (10 + (y7).toNatClampNeg)) 6 (0 : Int32)))) rfl ?_
            refine bi_Tgr rfl rfl rfl (st_kB0 hb1) (st_pB11 hb1) ?_
            refine bi_Tr 1 (s' := (121, [(5, .int (st_g s (b1 + 5) (y6).toNatClampNeg)), (0, .ref 65), (1, .ref b1), (6, .int y6), (7, .int y7)], [.int y6, .ref (b1 + 6)], st_mm (st_p s3 (st_gp s2 (10 + (y7).toNatClampNeg)) 6 (0 : Int32)))) rfl ?_
            obtain ⟨hi, h⟩ := h
            refine bi_Tial rfl (by have := hb1; simp only [st_isB] at this; rcases this with h | h <;> rw [h] <;> rfl) (st_kB6 hb1) hi ?_
            refine bi_Tr 3 (s' := (10, [(7, .int (y7 + (-1 : Int32))), (6, .int (st_g (st_p s3 (st_gp s2 (10 + (y7).toNatClampNeg)) 6 (0 : Int32)) (b1 + 6) (y6).toNatClampNeg)), (5, .int (st_g s (b1 + 5) (y6).toNatClampNeg)), (0, .ref 65), (1, .ref b1)], [], st_mm (st_p s3 (st_gp s2 (10 + (y7).toNatClampNeg)) 6 (0 : Int32)))) rfl ?_
            exact bi_Tww h rfl rfl ⟨rfl, rfl, rfl, rfl, rfl, trivial⟩
          · have h := h.2 hc
            refine bi_Tr 2 (s' := (112, [(5, .int (st_g s (b1 + 5) (y6).toNatClampNeg)), (0, .ref 65), (1, .ref b1), (6, .int y6), (7, .int y7)], [.int (1 : Int32), .ref (st_gp s2 (10 + (y7).toNatClampNeg))], st_mm s3)) rfl ?_
            refine bi_Tpz rfl rfl rfl rfl (st_kp0 h21q4_94) rfl ?_
            refine bi_Tr 1 (s' := (116, [(5, .int (st_g s (b1 + 5) (y6).toNatClampNeg)), (0, .ref 65), (1, .ref b1), (6, .int y6), (7, .int y7)], [.ref b1], st_mm (st_p s3 (st_gp s2 (10 + (y7).toNatClampNeg)) 6 (1 : Int32)))) rfl ?_
            refine bi_Tgr rfl rfl rfl (st_kB0 hb1) (st_pB11 hb1) ?_
            refine bi_Tr 1 (s' := (121, [(5, .int (st_g s (b1 + 5) (y6).toNatClampNeg)), (0, .ref 65), (1, .ref b1), (6, .int y6), (7, .int y7)], [.int y6, .ref (b1 + 6)], st_mm (st_p s3 (st_gp s2 (10 + (y7).toNatClampNeg)) 6 (1 : Int32)))) rfl ?_
            obtain ⟨hi, h⟩ := h
            refine bi_Tial rfl (by have := hb1; simp only [st_isB] at this; rcases this with h | h <;> rw [h] <;> rfl) (st_kB6 hb1) hi ?_
            refine bi_Tr 3 (s' := (10, [(7, .int (y7 + (-1 : Int32))), (6, .int (st_g (st_p s3 (st_gp s2 (10 + (y7).toNatClampNeg)) 6 (1 : Int32)) (b1 + 6) (y6).toNatClampNeg)), (5, .int (st_g s (b1 + 5) (y6).toNatClampNeg)), (0, .ref 65), (1, .ref b1)], [], st_mm (st_p s3 (st_gp s2 (10 + (y7).toNatClampNeg)) 6 (1 : Int32)))) rfl ?_
            exact bi_Tww h rfl rfl ⟨rfl, rfl, rfl, rfl, rfl, trivial⟩
        · have h := h.2 hc
          refine bi_Tr 6 (s' := (57, [(5, .int y5), (0, .ref 65), (1, .ref b1), (6, .int y6), (7, .int y7)], [.int y7, .ref 66], st_mm s)) rfl ?_
          obtain ⟨hi, h⟩ := h
          refine bi_Taal rfl hi ?_
          obtain ⟨h21q4_58, h⟩ := h
          refine bi_Tr 3 (s' := (63, [(5, .int y5), (0, .ref 65), (1, .ref b1), (6, .int y6), (7, .int y7)], [.int y5, .int y6, .int (1 : Int32), .ref (st_gp s (10 + (y7).toNatClampNeg))], st_mm s)) rfl ?_
          refine bi_TcV (as := [.ref (st_gp s (10 + (y7).toNatClampNeg)), .int (1 : Int32), .int y6, .int y5]) (bi_TcO rfl rfl rfl (st_kp0 h21q4_58) rfl rfl) rfl ?_
          refine cV.mono h (fun s4 h => ?_) (fun _ _ h => h.elim)
          refine bi_Tr 3 (s' := (72, [(5, .int y5), (0, .ref 65), (1, .ref b1), (6, .int y6), (7, .int y7)], [.int y7, .ref 66], st_mm s4)) rfl ?_
          obtain ⟨hi, h⟩ := h
          refine bi_Taal rfl hi ?_
          obtain ⟨h21q4_73, h⟩ := h
          refine bi_Tr 1 (s' := (74, [(5, .int y5), (0, .ref 65), (1, .ref b1), (6, .int y6), (7, .int y7)], [.ref b1, .ref (st_gp s4 (10 + (y7).toNatClampNeg))], st_mm s4)) rfl ?_
          refine bi_Tgr rfl rfl rfl (st_kB0 hb1) (st_pB13 hb1) ?_
          refine bi_Tr 1 (s' := (78, [(5, .int y5), (0, .ref 65), (1, .ref b1), (6, .int y6), (7, .int y7)], [.ref b1, .ref (b1 + 8), .ref (st_gp s4 (10 + (y7).toNatClampNeg))], st_mm s4)) rfl ?_
          refine bi_Tgr rfl rfl rfl (st_kB0 hb1) (st_pB12 hb1) ?_
          refine bi_Tr 1 (s' := (83, [(5, .int y5), (0, .ref 65), (1, .ref b1), (6, .int y6), (7, .int y7)], [.int y6, .ref (b1 + 7), .ref (b1 + 8), .ref (st_gp s4 (10 + (y7).toNatClampNeg))], st_mm s4)) rfl ?_
          obtain ⟨hi, h⟩ := h
          refine bi_Tial rfl (by have := hb1; simp only [st_isB] at this; rcases this with h | h <;> rw [h] <;> rfl) (st_kB7 hb1) hi ?_
          refine bi_TcV (as := [.ref (st_gp s4 (10 + (y7).toNatClampNeg)), .ref (b1 + 8), .int (st_g s4 (b1 + 7) (y6).toNatClampNeg)]) (bi_TcO rfl rfl rfl (st_kp0 h21q4_73) rfl rfl) rfl ?_
          refine cV.mono h (fun s5 h => ?_) (fun _ _ h => h.elim)
          refine bi_Tr 3 (s' := (93, [(5, .int y5), (0, .ref 65), (1, .ref b1), (6, .int y6), (7, .int y7)], [.int y7, .ref 66], st_mm s5)) rfl ?_
          obtain ⟨hi, h⟩ := h
          refine bi_Taal rfl hi ?_
          obtain ⟨h21q4_94, h⟩ := h
          refine bi_Tr 1 (s' := (95, [(5, .int y5), (0, .ref 65), (1, .ref b1), (6, .int y6), (7, .int y7)], [.ref b1, .ref (st_gp s5 (10 + (y7).toNatClampNeg))], st_mm s5)) rfl ?_
          refine bi_Tgi (o := 0) rfl rfl rfl (st_kB0 hb1) ?_
          refine bi_Tr 1 (s' := (100, [(5, .int y5), (0, .ref 65), (1, .ref b1), (6, .int y6), (7, .int y7)], [.int y6, .int (st_g s5 b1 9), .ref (st_gp s5 (10 + (y7).toNatClampNeg))], st_mm s5)) rfl ?_
          refine bi_TcI (as := [.int (st_g s5 b1 9), .int y6]) rfl rfl ?_
          refine cI.mono h (fun r6 s6 h => ?_) (fun _ _ h => h.elim)
          refine bi_Tr 2 (s' := ((if ¬ r6 = (1 : Int32) then 111 else 107), [(5, .int y5), (0, .ref 65), (1, .ref b1), (6, .int y6), (7, .int y7)], [.ref (st_gp s5 (10 + (y7).toNatClampNeg))], st_mm s6)) rfl (bi_Tif (fun hc => ?_) (fun hc => ?_))
          · have h := h.1 hc
            refine bi_Tr 1 (s' := (112, [(5, .int y5), (0, .ref 65), (1, .ref b1), (6, .int y6), (7, .int y7)], [.int (0 : Int32), .ref (st_gp s5 (10 + (y7).toNatClampNeg))], st_mm s6)) rfl ?_
            refine bi_Tpz rfl rfl rfl rfl (st_kp0 h21q4_94) rfl ?_
            refine bi_Tr 1 (s' := (116, [(5, .int y5), (0, .ref 65), (1, .ref b1), (6, .int y6), (7, .int y7)], [.ref b1], st_mm (st_p s6 (st_gp s5 (10 + (y7).toNatClampNeg)) 6 (0 : Int32)))) rfl ?_
            refine bi_Tgr rfl rfl rfl (st_kB0 hb1) (st_pB11 hb1) ?_
            refine bi_Tr 1 (s' := (121, [(5, .int y5), (0, .ref 65), (1, .ref b1), (6, .int y6), (7, .int y7)], [.int y6, .ref (b1 + 6)], st_mm (st_p s6 (st_gp s5 (10 + (y7).toNatClampNeg)) 6 (0 : Int32)))) rfl ?_
            obtain ⟨hi, h⟩ := h
            refine bi_Tial rfl (by have := hb1; simp only [st_isB] at this; rcases this with h | h <;> rw [h] <;> rfl) (st_kB6 hb1) hi ?_
            refine bi_Tr 3 (s' := (10, [(7, .int (y7 + (-1 : Int32))), (6, .int (st_g (st_p s6 (st_gp s5 (10 + (y7).toNatClampNeg)) 6 (0 : Int32)) (b1 + 6) (y6).toNatClampNeg)), (5, .int y5), (0, .ref 65), (1, .ref b1)], [], st_mm (st_p s6 (st_gp s5 (10 + (y7).toNatClampNeg)) 6 (0 : Int32)))) rfl ?_
            exact bi_Tww h rfl rfl ⟨rfl, rfl, rfl, rfl, rfl, trivial⟩
          · have h := h.2 hc
            refine bi_Tr 2 (s' := (112, [(5, .int y5), (0, .ref 65), (1, .ref b1), (6, .int y6), (7, .int y7)], [.int (1 : Int32), .ref (st_gp s5 (10 + (y7).toNatClampNeg))], st_mm s6)) rfl ?_
            refine bi_Tpz rfl rfl rfl rfl (st_kp0 h21q4_94) rfl ?_
            refine bi_Tr 1 (s' := (116, [(5, .int y5), (0, .ref 65), (1, .ref b1), (6, .int y6), (7, .int y7)], [.ref b1], st_mm (st_p s6 (st_gp s5 (10 + (y7).toNatClampNeg)) 6 (1 : Int32)))) rfl ?_
            refine bi_Tgr rfl rfl rfl (st_kB0 hb1) (st_pB11 hb1) ?_
            refine bi_Tr 1 (s' := (121, [(5, .int y5), (0, .ref 65), (1, .ref b1), (6, .int y6), (7, .int y7)], [.int y6, .ref (b1 + 6)], st_mm (st_p s6 (st_gp s5 (10 + (y7).toNatClampNeg)) 6 (1 : Int32)))) rfl ?_
            obtain ⟨hi, h⟩ := h
            refine bi_Tial rfl (by have := hb1; simp only [st_isB] at this; rcases this with h | h <;> rw [h] <;> rfl) (st_kB6 hb1) hi ?_
            refine bi_Tr 3 (s' := (10, [(7, .int (y7 + (-1 : Int32))), (6, .int (st_g (st_p s6 (st_gp s5 (10 + (y7).toNatClampNeg)) 6 (1 : Int32)) (b1 + 6) (y6).toNatClampNeg)), (5, .int y5), (0, .ref 65), (1, .ref b1)], [], st_mm (st_p s6 (st_gp s5 (10 + (y7).toNatClampNeg)) 6 (1 : Int32)))) rfl ?_
            exact bi_Tww h rfl rfl ⟨rfl, rfl, rfl, rfl, rfl, trivial⟩
theorem go_X3_layWheres_130 {X : bi_X} {d : Nat} {K : Int32 → bi_St → Prop} {E : Nat → bi_St → Prop}  {s : bi_St} {y5 : Int32}  (h : K y5 s) : at_X3_layWheres_130 X (d + 1) K E s y5 := by
  show bi_T _ _ _ _ _
  refine bi_Tr 1 (s' := (132, [(5, .int y5)], [.int y5], st_mm s)) rfl ?_
  exact bi_Tv rfl rfl (Or.inl ⟨_, _, rfl, h⟩)
/-- PolicyRows$Plan.layWheres(LPolicyRows$Book;III)I -/
theorem en_X3_layWheres {X : bi_X} {d : Nat} {K : Int32 → bi_St → Prop} {E : Nat → bi_St → Prop} {s : bi_St} {a1 : Nat} {x1 : Int32} {x2 : Int32} {x3 : Int32} (ha1 : st_isB a1) (h : at_X3_layWheres_10 X (d + 1) K E s (x1) (x2) (x3) (a1)) : cI X (d + 1) 42 [.ref 65, .ref a1, .int x1, .int x2, .int x3] s K E := by
  show bi_T _ _ _ _ _
  refine bi_Tr 6 (s' := (10, [(7, .int x3), (6, .int x2), (5, .int x1), (0, .ref 65), (1, .ref a1), (2, .int x1), (3, .int x2), (4, .int x3)], [], st_mm s)) rfl ?_
  exact bi_Tww h rfl rfl ⟨rfl, rfl, rfl, rfl, rfl, trivial⟩
def at_X3_policyCost_23 (X : bi_X) (d : Nat) (K : Int32 → bi_St → Prop) (E : Nat → bi_St → Prop) (s : bi_St) (y2 : Int32) (y3 : Int32) (y4 : Int32) : Prop := bi_T X d 43 (23, [(0, .ref 57), (2, .int y2), (3, .int y3), (4, .int y4)], [], st_mm s) (st_RI K E)
theorem go_X3_policyCost_23 {X : bi_X} {d : Nat} {K : Int32 → bi_St → Prop} {E : Nat → bi_St → Prop}  {s : bi_St} {y2 : Int32} {y3 : Int32} {y4 : Int32}  (h : st_isB (st_gp s 7) ∧ ((((st_g s (st_gp s 7) 2) ≤ y4) → K y3 s) ∧ (¬ ((st_g s (st_gp s 7) 2) ≤ y4) → st_isB (st_gp s 7) ∧ (bi_in y4 8 = true ∧ (cI X d 160 [.int y2, .int y4] s (fun (r3 : Int32) (s3 : bi_St) => ((¬ r3 = (1 : Int32)) → at_X3_policyCost_23 X (d + 1) K E s3 (y2) ((y3 + (0 : Int32))) ((y4 + (1 : Int32)))) ∧ (¬ (¬ r3 = (1 : Int32)) → (((st_g s ((st_gp s 7) + 3) (y4).toNatClampNeg) = (-1 : Int32)) → at_X3_policyCost_23 X (d + 1) K E s3 (y2) ((y3 + (0 : Int32))) ((y4 + (1 : Int32)))) ∧ (¬ ((st_g s ((st_gp s 7) + 3) (y4).toNatClampNeg) = (-1 : Int32)) → st_isB (st_gp s3 7) ∧ (cI X d 68 [.ref ((st_gp s3 7) + 8), .int (st_g s ((st_gp s 7) + 3) (y4).toNatClampNeg)] s3 (fun (r4 : Int32) (s4 : bi_St) => at_X3_policyCost_23 X (d + 1) K E s4 (y2) ((y3 + r4)) ((y4 + (1 : Int32)))) (fun _ _ => False))))) (fun _ _ => False)))))) : at_X3_policyCost_23 X (d + 1) K E s y2 y3 y4 := by
  show bi_T _ _ _ _ _
  obtain ⟨h0q0_26, h⟩ := h
  refine bi_Tr 3 (s' := (29, [(0, .ref 57), (2, .int y2), (3, .int y3), (4, .int y4)], [.ref (st_gp s 7), .int y4], st_mm s)) rfl ?_
  refine bi_Tgi (o := 0) rfl rfl rfl (st_kB0 h0q0_26) ?_
  refine bi_Tr 1 (s' := ((if (st_g s (st_gp s 7) 2) ≤ y4 then 88 else 35), [(0, .ref 57), (2, .int y2), (3, .int y3), (4, .int y4)], [], st_mm s)) rfl (bi_Tif (fun hc => ?_) (fun hc => ?_))
  · have h := h.1 hc
    refine bi_Tr 1 (s' := (89, [(0, .ref 57), (2, .int y2), (3, .int y3), (4, .int y4)], [.int y3], st_mm s)) rfl ?_
    exact bi_Tv rfl rfl (Or.inl ⟨_, _, rfl, h⟩)
  · have h := h.2 hc
    obtain ⟨h0q1_36, h⟩ := h
    refine bi_Tr 2 (s' := (39, [(0, .ref 57), (2, .int y2), (3, .int y3), (4, .int y4)], [.ref (st_gp s 7)], st_mm s)) rfl ?_
    refine bi_Tgr rfl rfl rfl (st_kB0 h0q1_36) (st_pB6 h0q1_36) ?_
    refine bi_Tr 1 (s' := (44, [(0, .ref 57), (2, .int y2), (3, .int y3), (4, .int y4)], [.int y4, .ref ((st_gp s 7) + 3)], st_mm s)) rfl ?_
    obtain ⟨hi, h⟩ := h
    refine bi_Tial rfl (by have := h0q1_36; simp only [st_isB] at this; rcases this with h | h <;> rw [h] <;> rfl) (st_kB3 h0q1_36) hi ?_
    refine bi_Tr 4 (s' := (51, [(5, .int (st_g s ((st_gp s 7) + 3) (y4).toNatClampNeg)), (0, .ref 57), (2, .int y2), (3, .int y3), (4, .int y4)], [.int y4, .int y2, .int y3], st_mm s)) rfl ?_
    refine bi_TcI (as := [.int y2, .int y4]) rfl rfl ?_
    refine cI.mono h (fun r3 s3 h => ?_) (fun _ _ h => h.elim)
    refine bi_Tr 2 (s' := ((if ¬ r3 = (1 : Int32) then 79 else 58), [(5, .int (st_g s ((st_gp s 7) + 3) (y4).toNatClampNeg)), (0, .ref 57), (2, .int y2), (3, .int y3), (4, .int y4)], [.int y3], st_mm s3)) rfl (bi_Tif (fun hc => ?_) (fun hc => ?_))
    · have h := h.1 hc
      refine bi_Tr 5 (s' := (23, [(4, .int (y4 + (1 : Int32))), (3, .int (y3 + (0 : Int32))), (5, .int (st_g s ((st_gp s 7) + 3) (y4).toNatClampNeg)), (0, .ref 57), (2, .int y2)], [], st_mm s3)) rfl ?_
      exact bi_Tww h rfl rfl ⟨rfl, rfl, rfl, rfl, trivial⟩
    · have h := h.2 hc
      refine bi_Tr 3 (s' := ((if (st_g s ((st_gp s 7) + 3) (y4).toNatClampNeg) = (-1 : Int32) then 79 else 64), [(5, .int (st_g s ((st_gp s 7) + 3) (y4).toNatClampNeg)), (0, .ref 57), (2, .int y2), (3, .int y3), (4, .int y4)], [.int y3], st_mm s3)) rfl (bi_Tif (fun hc => ?_) (fun hc => ?_))
      · have h := h.1 hc
        refine bi_Tr 5 (s' := (23, [(4, .int (y4 + (1 : Int32))), (3, .int (y3 + (0 : Int32))), (5, .int (st_g s ((st_gp s 7) + 3) (y4).toNatClampNeg)), (0, .ref 57), (2, .int y2)], [], st_mm s3)) rfl ?_
        exact bi_Tww h rfl rfl ⟨rfl, rfl, rfl, rfl, trivial⟩
      · have h := h.2 hc
        obtain ⟨h0q3_65, h⟩ := h
        refine bi_Tr 2 (s' := (68, [(5, .int (st_g s ((st_gp s 7) + 3) (y4).toNatClampNeg)), (0, .ref 57), (2, .int y2), (3, .int y3), (4, .int y4)], [.ref (st_gp s3 7), .int y3], st_mm s3)) rfl ?_
        refine bi_Tgr rfl rfl rfl (st_kB0 h0q3_65) (st_pB13 h0q3_65) ?_
        refine bi_Tr 1 (s' := (73, [(5, .int (st_g s ((st_gp s 7) + 3) (y4).toNatClampNeg)), (0, .ref 57), (2, .int y2), (3, .int y3), (4, .int y4)], [.int (st_g s ((st_gp s 7) + 3) (y4).toNatClampNeg), .ref ((st_gp s3 7) + 8), .int y3], st_mm s3)) rfl ?_
        refine bi_TcI (as := [.ref ((st_gp s3 7) + 8), .int (st_g s ((st_gp s 7) + 3) (y4).toNatClampNeg)]) (bi_TcO rfl rfl rfl (st_kR0 (st_isR_B h0q3_65)) rfl rfl) rfl ?_
        refine cI.mono h (fun r4 s4 h => ?_) (fun _ _ h => h.elim)
        refine bi_Tr 5 (s' := (23, [(4, .int (y4 + (1 : Int32))), (3, .int (y3 + r4)), (5, .int (st_g s ((st_gp s 7) + 3) (y4).toNatClampNeg)), (0, .ref 57), (2, .int y2)], [], st_mm s4)) rfl ?_
        exact bi_Tww h rfl rfl ⟨rfl, rfl, rfl, rfl, trivial⟩
/-- PolicyRows$Plan.policyCost(LPolicyRows$Judge;I)I -/
theorem en_X3_policyCost {X : bi_X} {d : Nat} {K : Int32 → bi_St → Prop} {E : Nat → bi_St → Prop} {s : bi_St} {x1 : Int32}  (h : cV X d 26 [.ref 57, .int x1] s (fun (s1 : bi_St) => st_isS (st_gp s1 8) ∧ (cI X d 28 [.ref 57, .int (st_g s1 (st_gp s1 8) 3), .int (0 : Int32)] s1 (fun (r2 : Int32) (s2 : bi_St) => at_X3_policyCost_23 X (d + 1) K E s2 (r2) ((1 : Int32)) ((0 : Int32))) (fun _ _ => False))) (fun _ _ => False)) : cI X (d + 1) 43 [.ref 57, .int x1] s K E := by
  show bi_T _ _ _ _ _
  refine bi_Tr 2 (s' := (2, [(0, .ref 57), (1, .int x1)], [.int x1, .ref 57], st_mm s)) rfl ?_
  refine bi_TcV (as := [.ref 57, .int x1]) rfl rfl ?_
  refine cV.mono h (fun s1 h => ?_) (fun _ _ h => h.elim)
  obtain ⟨h0q0_7, h⟩ := h
  refine bi_Tr 3 (s' := (10, [(0, .ref 57), (1, .int x1)], [.ref (st_gp s1 8), .ref 57], st_mm s1)) rfl ?_
  refine bi_Tgi (o := 0) rfl rfl rfl (st_kS0 h0q0_7) ?_
  refine bi_Tr 1 (s' := (14, [(0, .ref 57), (1, .int x1)], [.int (0 : Int32), .int (st_g s1 (st_gp s1 8) 3), .ref 57], st_mm s1)) rfl ?_
  refine bi_TcI (as := [.ref 57, .int (st_g s1 (st_gp s1 8) 3), .int (0 : Int32)]) rfl rfl ?_
  refine cI.mono h (fun r2 s2 h => ?_) (fun _ _ h => h.elim)
  refine bi_Tr 5 (s' := (23, [(4, .int (0 : Int32)), (3, .int (1 : Int32)), (2, .int r2), (0, .ref 57), (1, .int x1)], [], st_mm s2)) rfl ?_
  exact bi_Tww h rfl rfl ⟨rfl, rfl, rfl, rfl, trivial⟩
def at_X3_order_2 (X : bi_X) (d : Nat) (K : bi_St → Prop) (E : Nat → bi_St → Prop) (s : bi_St) (y1 : Int32) : Prop := bi_T X d 44 (2, [(0, .ref 65), (1, .int y1)], [], st_mm s) (st_RV K E)
theorem go_X3_order_2 {X : bi_X} {d : Nat} {K : bi_St → Prop} {E : Nat → bi_St → Prop}  {s : bi_St} {y1 : Int32}  (h : (((81 : Int32) ≤ y1) → K s) ∧ (¬ ((81 : Int32) ≤ y1) → cI X d 45 [.ref 65] s (fun (r1 : Int32) (s1 : bi_St) => (((1 : Int32) ≤ r1) → bi_in r1 9 = true ∧ (st_isp (st_gp s1 (10 + (r1).toNatClampNeg)) ∧ (bi_in (r1 - (1 : Int32)) 9 = true ∧ (st_isp (st_gp s1 (10 + ((r1 - (1 : Int32))).toNatClampNeg)) ∧ (bi_in r1 9 = true ∧ (bi_in (r1 - (1 : Int32)) 9 = true ∧ (at_X3_order_2 X (d + 1) K E (st_pp (st_pp s1 (10 + (r1).toNatClampNeg) (st_gp s1 (10 + ((r1 - (1 : Int32))).toNatClampNeg))) (10 + ((r1 - (1 : Int32))).toNatClampNeg) (st_gp s1 (10 + (r1).toNatClampNeg))) ((y1 + (1 : Int32)))))))))) ∧ (¬ ((1 : Int32) ≤ r1) → K s1)) (fun _ _ => False))) : at_X3_order_2 X (d + 1) K E s y1 := by
  show bi_T _ _ _ _ _
  refine bi_Tr 3 (s' := ((if (81 : Int32) ≤ y1 then 55 else 8), [(0, .ref 65), (1, .int y1)], [], st_mm s)) rfl (bi_Tif (fun hc => ?_) (fun hc => ?_))
  · have h := h.1 hc
    exact bi_Tv rfl rfl (Or.inl ⟨_, rfl, h⟩)
  · have h := h.2 hc
    refine bi_Tr 1 (s' := (9, [(0, .ref 65), (1, .int y1)], [.ref 65], st_mm s)) rfl ?_
    refine bi_TcI (as := [.ref 65]) rfl rfl ?_
    refine cI.mono h (fun r1 s1 h => ?_) (fun _ _ h => h.elim)
    refine bi_Tr 4 (s' := ((if (1 : Int32) ≤ r1 then 19 else 18), [(2, .int r1), (0, .ref 65), (1, .int y1)], [], st_mm s1)) rfl (bi_Tif (fun hc => ?_) (fun hc => ?_))
    · have h := h.1 hc
      refine bi_Tr 3 (s' := (24, [(2, .int r1), (0, .ref 65), (1, .int y1)], [.int r1, .ref 66], st_mm s1)) rfl ?_
      obtain ⟨hi, h⟩ := h
      refine bi_Taal rfl hi ?_
      obtain ⟨h21q2_25, h⟩ := h
      refine bi_Tr 9 (s' := (38, [(3, .ref (st_gp s1 (10 + (r1).toNatClampNeg))), (2, .int r1), (0, .ref 65), (1, .int y1)], [.int (r1 - (1 : Int32)), .ref 66, .int r1, .ref 66], st_mm s1)) rfl ?_
      obtain ⟨hi, h⟩ := h
      refine bi_Taal rfl hi ?_
      obtain ⟨h105q2_39, h⟩ := h
      obtain ⟨hi, h⟩ := h
      refine bi_Taas rfl h105q2_39 hi ?_
      refine bi_Tr 6 (s' := (48, [(3, .ref (st_gp s1 (10 + (r1).toNatClampNeg))), (2, .int r1), (0, .ref 65), (1, .int y1)], [.ref (st_gp s1 (10 + (r1).toNatClampNeg)), .int (r1 - (1 : Int32)), .ref 66], st_mm (st_pp s1 (10 + (r1).toNatClampNeg) (st_gp s1 (10 + ((r1 - (1 : Int32))).toNatClampNeg))))) rfl ?_
      obtain ⟨hi, h⟩ := h
      refine bi_Taas rfl h21q2_25 hi ?_
      refine bi_Tr 2 (s' := (2, [(1, .int (y1 + (1 : Int32))), (3, .ref (st_gp s1 (10 + (r1).toNatClampNeg))), (2, .int r1), (0, .ref 65)], [], st_mm (st_pp (st_pp s1 (10 + (r1).toNatClampNeg) (st_gp s1 (10 + ((r1 - (1 : Int32))).toNatClampNeg))) (10 + ((r1 - (1 : Int32))).toNatClampNeg) (st_gp s1 (10 + (r1).toNatClampNeg))))) rfl ?_
      exact bi_Tww h rfl rfl ⟨rfl, rfl, trivial⟩
    · have h := h.2 hc
      exact bi_Tv rfl rfl (Or.inl ⟨_, rfl, h⟩)
/-- PolicyRows$Plan.order()V -/
theorem en_X3_order {X : bi_X} {d : Nat} {K : bi_St → Prop} {E : Nat → bi_St → Prop} {s : bi_St}   (h : at_X3_order_2 X (d + 1) K E s ((0 : Int32))) : cV X (d + 1) 44 [.ref 65] s K E := by
  show bi_T _ _ _ _ _
  refine bi_Tr 2 (s' := (2, [(1, .int (0 : Int32)), (0, .ref 65)], [], st_mm s)) rfl ?_
  exact bi_Tww h rfl rfl ⟨rfl, rfl, trivial⟩
def at_X3_firstThatMayGoAhead_2 (X : bi_X) (d : Nat) (K : Int32 → bi_St → Prop) (E : Nat → bi_St → Prop) (s : bi_St) (y1 : Int32) : Prop := bi_T X d 45 (2, [(0, .ref 65), (1, .int y1)], [], st_mm s) (st_RI K E)
theorem go_X3_firstThatMayGoAhead_2 {X : bi_X} {d : Nat} {K : Int32 → bi_St → Prop} {E : Nat → bi_St → Prop}  {s : bi_St} {y1 : Int32}  (h : (((st_g s 65 2) ≤ y1) → K (-1 : Int32) s) ∧ (¬ ((st_g s 65 2) ≤ y1) → bi_in y1 9 = true ∧ (st_isp (st_gp s (10 + (y1).toNatClampNeg)) ∧ (bi_in (y1 - (1 : Int32)) 9 = true ∧ (st_isp (st_gp s (10 + ((y1 - (1 : Int32))).toNatClampNeg)) ∧ (cI X d 89 [.ref (st_gp s (10 + (y1).toNatClampNeg)), .ref (st_gp s (10 + ((y1 - (1 : Int32))).toNatClampNeg))] s (fun (r1 : Int32) (s1 : bi_St) => ((r1 = 0) → at_X3_firstThatMayGoAhead_2 X (d + 1) K E s1 ((y1 + (1 : Int32)))) ∧ (¬ (r1 = 0) → K y1 s1)) (fun _ _ => False))))))) : at_X3_firstThatMayGoAhead_2 X (d + 1) K E s y1 := by
  show bi_T _ _ _ _ _
  refine bi_Tr 4 (s' := ((if (st_g s 65 2) ≤ y1 then 38 else 10), [(0, .ref 65), (1, .int y1)], [], st_mm s)) rfl (bi_Tif (fun hc => ?_) (fun hc => ?_))
  · have h := h.1 hc
    refine bi_Tr 1 (s' := (39, [(0, .ref 65), (1, .int y1)], [.int (-1 : Int32)], st_mm s)) rfl ?_
    exact bi_Tv rfl rfl (Or.inl ⟨_, _, rfl, h⟩)
  · have h := h.2 hc
    refine bi_Tr 3 (s' := (15, [(0, .ref 65), (1, .int y1)], [.int y1, .ref 66], st_mm s)) rfl ?_
    obtain ⟨hi, h⟩ := h
    refine bi_Taal rfl hi ?_
    obtain ⟨h21q1_16, h⟩ := h
    refine bi_Tr 5 (s' := (23, [(0, .ref 65), (1, .int y1)], [.int (y1 - (1 : Int32)), .ref 66, .ref (st_gp s (10 + (y1).toNatClampNeg))], st_mm s)) rfl ?_
    obtain ⟨hi, h⟩ := h
    refine bi_Taal rfl hi ?_
    obtain ⟨h104q1_24, h⟩ := h
    refine bi_TcI (as := [.ref (st_gp s (10 + (y1).toNatClampNeg)), .ref (st_gp s (10 + ((y1 - (1 : Int32))).toNatClampNeg))]) (bi_TcO rfl rfl rfl (st_kp0 h21q1_16) rfl rfl) rfl ?_
    refine cI.mono h (fun r1 s1 h => ?_) (fun _ _ h => h.elim)
    refine bi_Tr 1 (s' := ((if r1 = 0 then 32 else 30), [(0, .ref 65), (1, .int y1)], [], st_mm s1)) rfl (bi_Tif (fun hc => ?_) (fun hc => ?_))
    · have h := h.1 hc
      refine bi_Tr 2 (s' := (2, [(1, .int (y1 + (1 : Int32))), (0, .ref 65)], [], st_mm s1)) rfl ?_
      exact bi_Tww h rfl rfl ⟨rfl, rfl, trivial⟩
    · have h := h.2 hc
      refine bi_Tr 1 (s' := (31, [(0, .ref 65), (1, .int y1)], [.int y1], st_mm s1)) rfl ?_
      exact bi_Tv rfl rfl (Or.inl ⟨_, _, rfl, h⟩)
/-- PolicyRows$Plan.firstThatMayGoAhead()I -/
theorem en_X3_firstThatMayGoAhead {X : bi_X} {d : Nat} {K : Int32 → bi_St → Prop} {E : Nat → bi_St → Prop} {s : bi_St}   (h : at_X3_firstThatMayGoAhead_2 X (d + 1) K E s ((1 : Int32))) : cI X (d + 1) 45 [.ref 65] s K E := by
  show bi_T _ _ _ _ _
  refine bi_Tr 2 (s' := (2, [(1, .int (1 : Int32)), (0, .ref 65)], [], st_mm s)) rfl ?_
  exact bi_Tww h rfl rfl ⟨rfl, rfl, trivial⟩
def at_X3_pass_37 (X : bi_X) (d : Nat) (K : bi_St → Prop) (E : Nat → bi_St → Prop) (s : bi_St) (y3 : Int32) (y4 : Int32) (b2 : Nat) : Prop := bi_T X d 46 (37, [(0, .ref 65), (1, .ref 57), (2, .ref b2), (3, .int y3), (4, .int y4)], [], st_mm s) (st_RV K E)
theorem go_X3_pass_37 {X : bi_X} {d : Nat} {K : bi_St → Prop} {E : Nat → bi_St → Prop}  {s : bi_St} {y3 : Int32} {y4 : Int32} {b2 : Nat} (hb2 : st_isR b2) (h : st_isS (st_gp s 8) ∧ ((((st_g s (st_gp s 8) 0) ≤ y4) → (((st_g s 65 4) = (-1 : Int32)) → K s) ∧ (¬ ((st_g s 65 4) = (-1 : Int32)) → K (st_p s 65 3 (0 : Int32)))) ∧ (¬ ((st_g s (st_gp s 8) 0) ≤ y4) → ((¬ (st_g s 65 4) = (-1 : Int32)) → (((st_g s 65 4) = (-1 : Int32)) → K s) ∧ (¬ ((st_g s 65 4) = (-1 : Int32)) → K (st_p s 65 3 (0 : Int32)))) ∧ (¬ (¬ (st_g s 65 4) = (-1 : Int32)) → cV X d 27 [.ref 57, .int y4] s (fun (s2 : bi_St) => cI X d 160 [.int y3, .int y4] s2 (fun (r3 : Int32) (s3 : bi_St) => ((¬ r3 = (1 : Int32)) → cI X d 47 [.ref 65, .ref 57, .ref b2, .int y4, .int (0 : Int32)] s3 (fun (r4 : Int32) (s4 : bi_St) => ((r4 = 0) → at_X3_pass_37 X (d + 1) K E s4 (y3) ((y4 + (1 : Int32))) (b2)) ∧ (¬ (r4 = 0) → at_X3_pass_37 X (d + 1) K E (st_p s4 65 3 ((st_g s4 65 3) ||| ((1 : Int32) <<< (y4 &&& 31)))) (y3) ((y4 + (1 : Int32))) (b2))) (fun _ _ => False)) ∧ (¬ (¬ r3 = (1 : Int32)) → cI X d 47 [.ref 65, .ref 57, .ref b2, .int y4, .int (1 : Int32)] s3 (fun (r5 : Int32) (s5 : bi_St) => ((r5 = 0) → at_X3_pass_37 X (d + 1) K E s5 (y3) ((y4 + (1 : Int32))) (b2)) ∧ (¬ (r5 = 0) → at_X3_pass_37 X (d + 1) K E (st_p s5 65 3 ((st_g s5 65 3) ||| ((1 : Int32) <<< (y4 &&& 31)))) (y3) ((y4 + (1 : Int32))) (b2))) (fun _ _ => False))) (fun _ _ => False)) (fun _ _ => False))))) : at_X3_pass_37 X (d + 1) K E s y3 y4 b2 := by
  show bi_T _ _ _ _ _
  obtain ⟨h0q0_40, h⟩ := h
  refine bi_Tr 3 (s' := (43, [(0, .ref 65), (1, .ref 57), (2, .ref b2), (3, .int y3), (4, .int y4)], [.ref (st_gp s 8), .int y4], st_mm s)) rfl ?_
  refine bi_Tgi (o := 0) rfl rfl rfl (st_kS0 h0q0_40) ?_
  refine bi_Tr 1 (s' := ((if (st_g s (st_gp s 8) 0) ≤ y4 then 108 else 49), [(0, .ref 65), (1, .ref 57), (2, .ref b2), (3, .int y3), (4, .int y4)], [], st_mm s)) rfl (bi_Tif (fun hc => ?_) (fun hc => ?_))
  · have h := h.1 hc
    refine bi_Tr 4 (s' := ((if (st_g s 65 4) = (-1 : Int32) then 121 else 116), [(0, .ref 65), (1, .ref 57), (2, .ref b2), (3, .int y3), (4, .int y4)], [], st_mm s)) rfl (bi_Tif (fun hc => ?_) (fun hc => ?_))
    · have h := h.1 hc
      exact bi_Tv rfl rfl (Or.inl ⟨_, rfl, h⟩)
    · have h := h.2 hc
      refine bi_Tr 3 (s' := (121, [(0, .ref 65), (1, .ref 57), (2, .ref b2), (3, .int y3), (4, .int y4)], [], st_mm (st_p s 65 3 (0 : Int32)))) rfl ?_
      exact bi_Tv rfl rfl (Or.inl ⟨_, rfl, h⟩)
  · have h := h.2 hc
    refine bi_Tr 4 (s' := ((if ¬ (st_g s 65 4) = (-1 : Int32) then 108 else 57), [(0, .ref 65), (1, .ref 57), (2, .ref b2), (3, .int y3), (4, .int y4)], [], st_mm s)) rfl (bi_Tif (fun hc => ?_) (fun hc => ?_))
    · have h := h.1 hc
      refine bi_Tr 4 (s' := ((if (st_g s 65 4) = (-1 : Int32) then 121 else 116), [(0, .ref 65), (1, .ref 57), (2, .ref b2), (3, .int y3), (4, .int y4)], [], st_mm s)) rfl (bi_Tif (fun hc => ?_) (fun hc => ?_))
      · have h := h.1 hc
        exact bi_Tv rfl rfl (Or.inl ⟨_, rfl, h⟩)
      · have h := h.2 hc
        refine bi_Tr 3 (s' := (121, [(0, .ref 65), (1, .ref 57), (2, .ref b2), (3, .int y3), (4, .int y4)], [], st_mm (st_p s 65 3 (0 : Int32)))) rfl ?_
        exact bi_Tv rfl rfl (Or.inl ⟨_, rfl, h⟩)
    · have h := h.2 hc
      refine bi_Tr 2 (s' := (60, [(0, .ref 65), (1, .ref 57), (2, .ref b2), (3, .int y3), (4, .int y4)], [.int y4, .ref 57], st_mm s)) rfl ?_
      refine bi_TcV (as := [.ref 57, .int y4]) rfl rfl ?_
      refine cV.mono h (fun s2 h => ?_) (fun _ _ h => h.elim)
      refine bi_Tr 6 (s' := (71, [(0, .ref 65), (1, .ref 57), (2, .ref b2), (3, .int y3), (4, .int y4)], [.int y4, .int y3, .int y4, .ref b2, .ref 57, .ref 65], st_mm s2)) rfl ?_
      refine bi_TcI (as := [.int y3, .int y4]) rfl rfl ?_
      refine cI.mono h (fun r3 s3 h => ?_) (fun _ _ h => h.elim)
      refine bi_Tr 2 (s' := ((if ¬ r3 = (1 : Int32) then 82 else 78), [(0, .ref 65), (1, .ref 57), (2, .ref b2), (3, .int y3), (4, .int y4)], [.int y4, .ref b2, .ref 57, .ref 65], st_mm s3)) rfl (bi_Tif (fun hc => ?_) (fun hc => ?_))
      · have h := h.1 hc
        refine bi_Tr 1 (s' := (83, [(0, .ref 65), (1, .ref 57), (2, .ref b2), (3, .int y3), (4, .int y4)], [.int (0 : Int32), .int y4, .ref b2, .ref 57, .ref 65], st_mm s3)) rfl ?_
        refine bi_TcI (as := [.ref 65, .ref 57, .ref b2, .int y4, .int (0 : Int32)]) rfl rfl ?_
        refine cI.mono h (fun r4 s4 h => ?_) (fun _ _ h => h.elim)
        refine bi_Tr 1 (s' := ((if r4 = 0 then 102 else 89), [(0, .ref 65), (1, .ref 57), (2, .ref b2), (3, .int y3), (4, .int y4)], [], st_mm s4)) rfl (bi_Tif (fun hc => ?_) (fun hc => ?_))
        · have h := h.1 hc
          refine bi_Tr 2 (s' := (37, [(4, .int (y4 + (1 : Int32))), (0, .ref 65), (1, .ref 57), (2, .ref b2), (3, .int y3)], [], st_mm s4)) rfl ?_
          exact bi_Tww h rfl rfl ⟨rfl, rfl, rfl, rfl, rfl, trivial⟩
        · have h := h.2 hc
          refine bi_Tr 10 (s' := (37, [(4, .int (y4 + (1 : Int32))), (0, .ref 65), (1, .ref 57), (2, .ref b2), (3, .int y3)], [], st_mm (st_p s4 65 3 ((st_g s4 65 3) ||| ((1 : Int32) <<< (y4 &&& 31)))))) rfl ?_
          exact bi_Tww h rfl rfl ⟨rfl, rfl, rfl, rfl, rfl, trivial⟩
      · have h := h.2 hc
        refine bi_Tr 2 (s' := (83, [(0, .ref 65), (1, .ref 57), (2, .ref b2), (3, .int y3), (4, .int y4)], [.int (1 : Int32), .int y4, .ref b2, .ref 57, .ref 65], st_mm s3)) rfl ?_
        refine bi_TcI (as := [.ref 65, .ref 57, .ref b2, .int y4, .int (1 : Int32)]) rfl rfl ?_
        refine cI.mono h (fun r5 s5 h => ?_) (fun _ _ h => h.elim)
        refine bi_Tr 1 (s' := ((if r5 = 0 then 102 else 89), [(0, .ref 65), (1, .ref 57), (2, .ref b2), (3, .int y3), (4, .int y4)], [], st_mm s5)) rfl (bi_Tif (fun hc => ?_) (fun hc => ?_))
        · have h := h.1 hc
          refine bi_Tr 2 (s' := (37, [(4, .int (y4 + (1 : Int32))), (0, .ref 65), (1, .ref 57), (2, .ref b2), (3, .int y3)], [], st_mm s5)) rfl ?_
          exact bi_Tww h rfl rfl ⟨rfl, rfl, rfl, rfl, rfl, trivial⟩
        · have h := h.2 hc
          refine bi_Tr 10 (s' := (37, [(4, .int (y4 + (1 : Int32))), (0, .ref 65), (1, .ref 57), (2, .ref b2), (3, .int y3)], [], st_mm (st_p s5 65 3 ((st_g s5 65 3) ||| ((1 : Int32) <<< (y4 &&& 31)))))) rfl ?_
          exact bi_Tww h rfl rfl ⟨rfl, rfl, rfl, rfl, rfl, trivial⟩
/-- PolicyRows$Plan.pass(LPolicyRows$Judge;LPolicyRows$Rules;)V -/
theorem en_X3_pass {X : bi_X} {d : Nat} {K : bi_St → Prop} {E : Nat → bi_St → Prop} {s : bi_St} {a2 : Nat} (ha2 : st_isR a2) (h : cI X d 32 [.ref 57, .int (st_g (st_p (st_p (st_p (st_p (st_p s 65 3 (0 : Int32)) 65 4 (-1 : Int32)) 65 5 (-1 : Int32)) 65 6 (0 : Int32)) 65 7 (0 : Int32)) 65 8)] (st_p (st_p (st_p (st_p (st_p s 65 3 (0 : Int32)) 65 4 (-1 : Int32)) 65 5 (-1 : Int32)) 65 6 (0 : Int32)) 65 7 (0 : Int32)) (fun (r1 : Int32) (s1 : bi_St) => at_X3_pass_37 X (d + 1) K E s1 (r1) ((0 : Int32)) (a2)) (fun _ _ => False)) : cV X (d + 1) 46 [.ref 65, .ref 57, .ref a2] s K E := by
  show bi_T _ _ _ _ _
  refine bi_Tr 18 (s' := (30, [(0, .ref 65), (1, .ref 57), (2, .ref a2)], [.int (st_g (st_p (st_p (st_p (st_p (st_p s 65 3 (0 : Int32)) 65 4 (-1 : Int32)) 65 5 (-1 : Int32)) 65 6 (0 : Int32)) 65 7 (0 : Int32)) 65 8), .ref 57], st_mm (st_p (st_p (st_p (st_p (st_p s 65 3 (0 : Int32)) 65 4 (-1 : Int32)) 65 5 (-1 : Int32)) 65 6 (0 : Int32)) 65 7 (0 : Int32)))) rfl ?_
  refine bi_TcI (as := [.ref 57, .int (st_g (st_p (st_p (st_p (st_p (st_p s 65 3 (0 : Int32)) 65 4 (-1 : Int32)) 65 5 (-1 : Int32)) 65 6 (0 : Int32)) 65 7 (0 : Int32)) 65 8)]) rfl rfl ?_
  refine cI.mono h (fun r1 s1 h => ?_) (fun _ _ h => h.elim)
  refine bi_Tr 3 (s' := (37, [(4, .int (0 : Int32)), (3, .int r1), (0, .ref 65), (1, .ref 57), (2, .ref a2)], [], st_mm s1)) rfl ?_
  exact bi_Tww h rfl rfl ⟨rfl, rfl, rfl, rfl, rfl, trivial⟩
def at_X3_passRow_3 (X : bi_X) (d : Nat) (K : Int32 → bi_St → Prop) (E : Nat → bi_St → Prop) (s : bi_St) (y3 : Int32) (y4 : Int32) (y5 : Int32) (b2 : Nat) : Prop := bi_T X d 47 (3, [(0, .ref 65), (1, .ref 57), (2, .ref b2), (3, .int y3), (4, .int y4), (5, .int y5)], [], st_mm s) (st_RI K E)
def at_X3_passRow_151 (X : bi_X) (d : Nat) (K : Int32 → bi_St → Prop) (E : Nat → bi_St → Prop) (s : bi_St) (y3 : Int32) (y4 : Int32) (y5 : Int32) (y7 : Int32) (b2 : Nat) : Prop := bi_T X d 47 (151, [(0, .ref 65), (1, .ref 57), (2, .ref b2), (3, .int y3), (4, .int y4), (5, .int y5), (7, .int y7)], [], st_mm s) (st_RI K E)
def at_X3_passRow_158 (X : bi_X) (d : Nat) (K : Int32 → bi_St → Prop) (E : Nat → bi_St → Prop) (s : bi_St) (y3 : Int32) (y4 : Int32) (y5 : Int32) (b2 : Nat) : Prop := bi_T X d 47 (158, [(0, .ref 65), (1, .ref 57), (2, .ref b2), (3, .int y3), (4, .int y4), (5, .int y5)], [], st_mm s) (st_RI K E)
theorem go_X3_passRow_3 {X : bi_X} {d : Nat} {K : Int32 → bi_St → Prop} {E : Nat → bi_St → Prop}  {s : bi_St} {y3 : Int32} {y4 : Int32} {y5 : Int32} {b2 : Nat} (hb2 : st_isR b2) (h : (((st_g s 65 2) ≤ y5) → K (1 : Int32) s) ∧ (¬ ((st_g s 65 2) ≤ y5) → bi_in y5 9 = true ∧ (st_isp (st_gp s (10 + (y5).toNatClampNeg)) ∧ (((y4 = 0) → ((¬ (st_g (st_p (st_p s (st_gp s (10 + (y5).toNatClampNeg)) 8 ((st_g s (st_gp s (10 + (y5).toNatClampNeg)) 8) + (1 : Int32))) (st_gp s (10 + (y5).toNatClampNeg)) 7 ((st_g (st_p s (st_gp s (10 + (y5).toNatClampNeg)) 8 ((st_g s (st_gp s (10 + (y5).toNatClampNeg)) 8) + (1 : Int32))) (st_gp s (10 + (y5).toNatClampNeg)) 7) + (0 : Int32))) (st_gp s (10 + (y5).toNatClampNeg)) 0) = 0) → cV X d 26 [.ref 57, .int (st_g (st_p (st_p s (st_gp s (10 + (y5).toNatClampNeg)) 8 ((st_g s (st_gp s (10 + (y5).toNatClampNeg)) 8) + (1 : Int32))) (st_gp s (10 + (y5).toNatClampNeg)) 7 ((st_g (st_p s (st_gp s (10 + (y5).toNatClampNeg)) 8 ((st_g s (st_gp s (10 + (y5).toNatClampNeg)) 8) + (1 : Int32))) (st_gp s (10 + (y5).toNatClampNeg)) 7) + (0 : Int32))) (st_gp s (10 + (y5).toNatClampNeg)) 3)] (st_p (st_p s (st_gp s (10 + (y5).toNatClampNeg)) 8 ((st_g s (st_gp s (10 + (y5).toNatClampNeg)) 8) + (1 : Int32))) (st_gp s (10 + (y5).toNatClampNeg)) 7 ((st_g (st_p s (st_gp s (10 + (y5).toNatClampNeg)) 8 ((st_g s (st_gp s (10 + (y5).toNatClampNeg)) 8) + (1 : Int32))) (st_gp s (10 + (y5).toNatClampNeg)) 7) + (0 : Int32))) (fun (s1 : bi_St) => ((¬ (st_g s1 (st_gp s (10 + (y5).toNatClampNeg)) 0) = (1 : Int32)) → cI X d 34 [.ref 57, .ref b2, .int (st_g s1 (st_gp s (10 + (y5).toNatClampNeg)) 4)] s1 (fun (r2 : Int32) (s2 : bi_St) => (((st_g (st_p (st_p s2 65 6 ((st_g s2 65 6) + (st_g s2 57 8))) 65 7 ((st_g (st_p s2 65 6 ((st_g s2 65 6) + (st_g s2 57 8))) 65 7) + (st_g (st_p s2 65 6 ((st_g s2 65 6) + (st_g s2 57 8))) 57 9))) 57 7) = 0) → at_X3_passRow_151 X (d + 1) K E (st_p (st_p s2 65 6 ((st_g s2 65 6) + (st_g s2 57 8))) 65 7 ((st_g (st_p s2 65 6 ((st_g s2 65 6) + (st_g s2 57 8))) 65 7) + (st_g (st_p s2 65 6 ((st_g s2 65 6) + (st_g s2 57 8))) 57 9))) (y3) (y4) (y5) (r2) (b2)) ∧ (¬ ((st_g (st_p (st_p s2 65 6 ((st_g s2 65 6) + (st_g s2 57 8))) 65 7 ((st_g (st_p s2 65 6 ((st_g s2 65 6) + (st_g s2 57 8))) 65 7) + (st_g (st_p s2 65 6 ((st_g s2 65 6) + (st_g s2 57 8))) 57 9))) 57 7) = 0) → at_X3_passRow_151 X (d + 1) K E (st_p (st_p (st_p (st_p s2 65 6 ((st_g s2 65 6) + (st_g s2 57 8))) 65 7 ((st_g (st_p s2 65 6 ((st_g s2 65 6) + (st_g s2 57 8))) 65 7) + (st_g (st_p s2 65 6 ((st_g s2 65 6) + (st_g s2 57 8))) 57 9))) 65 4 y3) 65 5 y5) (y3) (y4) (y5) (r2) (b2))) (fun _ _ => False)) ∧ (¬ (¬ (st_g s1 (st_gp s (10 + (y5).toNatClampNeg)) 0) = (1 : Int32)) → st_isB (st_gp s1 7) ∧ (cI X d 34 [.ref 57, .ref ((st_gp s1 7) + 8), .int (st_g s1 (st_gp s (10 + (y5).toNatClampNeg)) 4)] s1 (fun (r3 : Int32) (s3 : bi_St) => (((st_g (st_p (st_p s3 65 6 ((st_g s3 65 6) + (st_g s3 57 8))) 65 7 ((st_g (st_p s3 65 6 ((st_g s3 65 6) + (st_g s3 57 8))) 65 7) + (st_g (st_p s3 65 6 ((st_g s3 65 6) + (st_g s3 57 8))) 57 9))) 57 7) = 0) → at_X3_passRow_151 X (d + 1) K E (st_p (st_p s3 65 6 ((st_g s3 65 6) + (st_g s3 57 8))) 65 7 ((st_g (st_p s3 65 6 ((st_g s3 65 6) + (st_g s3 57 8))) 65 7) + (st_g (st_p s3 65 6 ((st_g s3 65 6) + (st_g s3 57 8))) 57 9))) (y3) (y4) (y5) (r3) (b2)) ∧ (¬ ((st_g (st_p (st_p s3 65 6 ((st_g s3 65 6) + (st_g s3 57 8))) 65 7 ((st_g (st_p s3 65 6 ((st_g s3 65 6) + (st_g s3 57 8))) 65 7) + (st_g (st_p s3 65 6 ((st_g s3 65 6) + (st_g s3 57 8))) 57 9))) 57 7) = 0) → at_X3_passRow_151 X (d + 1) K E (st_p (st_p (st_p (st_p s3 65 6 ((st_g s3 65 6) + (st_g s3 57 8))) 65 7 ((st_g (st_p s3 65 6 ((st_g s3 65 6) + (st_g s3 57 8))) 65 7) + (st_g (st_p s3 65 6 ((st_g s3 65 6) + (st_g s3 57 8))) 57 9))) 65 4 y3) 65 5 y5) (y3) (y4) (y5) (r3) (b2))) (fun _ _ => False)))) (fun _ _ => False)) ∧ (¬ (¬ (st_g (st_p (st_p s (st_gp s (10 + (y5).toNatClampNeg)) 8 ((st_g s (st_gp s (10 + (y5).toNatClampNeg)) 8) + (1 : Int32))) (st_gp s (10 + (y5).toNatClampNeg)) 7 ((st_g (st_p s (st_gp s (10 + (y5).toNatClampNeg)) 8 ((st_g s (st_gp s (10 + (y5).toNatClampNeg)) 8) + (1 : Int32))) (st_gp s (10 + (y5).toNatClampNeg)) 7) + (0 : Int32))) (st_gp s (10 + (y5).toNatClampNeg)) 0) = 0) → ((¬ y4 = 0) → at_X3_passRow_158 X (d + 1) K E (st_p (st_p s (st_gp s (10 + (y5).toNatClampNeg)) 8 ((st_g s (st_gp s (10 + (y5).toNatClampNeg)) 8) + (1 : Int32))) (st_gp s (10 + (y5).toNatClampNeg)) 7 ((st_g (st_p s (st_gp s (10 + (y5).toNatClampNeg)) 8 ((st_g s (st_gp s (10 + (y5).toNatClampNeg)) 8) + (1 : Int32))) (st_gp s (10 + (y5).toNatClampNeg)) 7) + (0 : Int32))) (y3) (y4) (y5) (b2)) ∧ (¬ (¬ y4 = 0) → K (0 : Int32) (st_p (st_p s (st_gp s (10 + (y5).toNatClampNeg)) 8 ((st_g s (st_gp s (10 + (y5).toNatClampNeg)) 8) + (1 : Int32))) (st_gp s (10 + (y5).toNatClampNeg)) 7 ((st_g (st_p s (st_gp s (10 + (y5).toNatClampNeg)) 8 ((st_g s (st_gp s (10 + (y5).toNatClampNeg)) 8) + (1 : Int32))) (st_gp s (10 + (y5).toNatClampNeg)) 7) + (0 : Int32)))))) ∧ (¬ (y4 = 0) → ((¬ (st_g (st_p (st_p s (st_gp s (10 + (y5).toNatClampNeg)) 8 ((st_g s (st_gp s (10 + (y5).toNatClampNeg)) 8) + (1 : Int32))) (st_gp s (10 + (y5).toNatClampNeg)) 7 ((st_g (st_p s (st_gp s (10 + (y5).toNatClampNeg)) 8 ((st_g s (st_gp s (10 + (y5).toNatClampNeg)) 8) + (1 : Int32))) (st_gp s (10 + (y5).toNatClampNeg)) 7) + (1 : Int32))) (st_gp s (10 + (y5).toNatClampNeg)) 0) = 0) → cV X d 26 [.ref 57, .int (st_g (st_p (st_p s (st_gp s (10 + (y5).toNatClampNeg)) 8 ((st_g s (st_gp s (10 + (y5).toNatClampNeg)) 8) + (1 : Int32))) (st_gp s (10 + (y5).toNatClampNeg)) 7 ((st_g (st_p s (st_gp s (10 + (y5).toNatClampNeg)) 8 ((st_g s (st_gp s (10 + (y5).toNatClampNeg)) 8) + (1 : Int32))) (st_gp s (10 + (y5).toNatClampNeg)) 7) + (1 : Int32))) (st_gp s (10 + (y5).toNatClampNeg)) 3)] (st_p (st_p s (st_gp s (10 + (y5).toNatClampNeg)) 8 ((st_g s (st_gp s (10 + (y5).toNatClampNeg)) 8) + (1 : Int32))) (st_gp s (10 + (y5).toNatClampNeg)) 7 ((st_g (st_p s (st_gp s (10 + (y5).toNatClampNeg)) 8 ((st_g s (st_gp s (10 + (y5).toNatClampNeg)) 8) + (1 : Int32))) (st_gp s (10 + (y5).toNatClampNeg)) 7) + (1 : Int32))) (fun (s4 : bi_St) => ((¬ (st_g s4 (st_gp s (10 + (y5).toNatClampNeg)) 0) = (1 : Int32)) → cI X d 34 [.ref 57, .ref b2, .int (st_g s4 (st_gp s (10 + (y5).toNatClampNeg)) 4)] s4 (fun (r5 : Int32) (s5 : bi_St) => (((st_g (st_p (st_p s5 65 6 ((st_g s5 65 6) + (st_g s5 57 8))) 65 7 ((st_g (st_p s5 65 6 ((st_g s5 65 6) + (st_g s5 57 8))) 65 7) + (st_g (st_p s5 65 6 ((st_g s5 65 6) + (st_g s5 57 8))) 57 9))) 57 7) = 0) → at_X3_passRow_151 X (d + 1) K E (st_p (st_p s5 65 6 ((st_g s5 65 6) + (st_g s5 57 8))) 65 7 ((st_g (st_p s5 65 6 ((st_g s5 65 6) + (st_g s5 57 8))) 65 7) + (st_g (st_p s5 65 6 ((st_g s5 65 6) + (st_g s5 57 8))) 57 9))) (y3) (y4) (y5) (r5) (b2)) ∧ (¬ ((st_g (st_p (st_p s5 65 6 ((st_g s5 65 6) + (st_g s5 57 8))) 65 7 ((st_g (st_p s5 65 6 ((st_g s5 65 6) + (st_g s5 57 8))) 65 7) + (st_g (st_p s5 65 6 ((st_g s5 65 6) + (st_g s5 57 8))) 57 9))) 57 7) = 0) → at_X3_passRow_151 X (d + 1) K E (st_p (st_p (st_p (st_p s5 65 6 ((st_g s5 65 6) + (st_g s5 57 8))) 65 7 ((st_g (st_p s5 65 6 ((st_g s5 65 6) + (st_g s5 57 8))) 65 7) + (st_g (st_p s5 65 6 ((st_g s5 65 6) + (st_g s5 57 8))) 57 9))) 65 4 y3) 65 5 y5) (y3) (y4) (y5) (r5) (b2))) (fun _ _ => False)) ∧ (¬ (¬ (st_g s4 (st_gp s (10 + (y5).toNatClampNeg)) 0) = (1 : Int32)) → st_isB (st_gp s4 7) ∧ (cI X d 34 [.ref 57, .ref ((st_gp s4 7) + 8), .int (st_g s4 (st_gp s (10 + (y5).toNatClampNeg)) 4)] s4 (fun (r6 : Int32) (s6 : bi_St) => (((st_g (st_p (st_p s6 65 6 ((st_g s6 65 6) + (st_g s6 57 8))) 65 7 ((st_g (st_p s6 65 6 ((st_g s6 65 6) + (st_g s6 57 8))) 65 7) + (st_g (st_p s6 65 6 ((st_g s6 65 6) + (st_g s6 57 8))) 57 9))) 57 7) = 0) → at_X3_passRow_151 X (d + 1) K E (st_p (st_p s6 65 6 ((st_g s6 65 6) + (st_g s6 57 8))) 65 7 ((st_g (st_p s6 65 6 ((st_g s6 65 6) + (st_g s6 57 8))) 65 7) + (st_g (st_p s6 65 6 ((st_g s6 65 6) + (st_g s6 57 8))) 57 9))) (y3) (y4) (y5) (r6) (b2)) ∧ (¬ ((st_g (st_p (st_p s6 65 6 ((st_g s6 65 6) + (st_g s6 57 8))) 65 7 ((st_g (st_p s6 65 6 ((st_g s6 65 6) + (st_g s6 57 8))) 65 7) + (st_g (st_p s6 65 6 ((st_g s6 65 6) + (st_g s6 57 8))) 57 9))) 57 7) = 0) → at_X3_passRow_151 X (d + 1) K E (st_p (st_p (st_p (st_p s6 65 6 ((st_g s6 65 6) + (st_g s6 57 8))) 65 7 ((st_g (st_p s6 65 6 ((st_g s6 65 6) + (st_g s6 57 8))) 65 7) + (st_g (st_p s6 65 6 ((st_g s6 65 6) + (st_g s6 57 8))) 57 9))) 65 4 y3) 65 5 y5) (y3) (y4) (y5) (r6) (b2))) (fun _ _ => False)))) (fun _ _ => False)) ∧ (¬ (¬ (st_g (st_p (st_p s (st_gp s (10 + (y5).toNatClampNeg)) 8 ((st_g s (st_gp s (10 + (y5).toNatClampNeg)) 8) + (1 : Int32))) (st_gp s (10 + (y5).toNatClampNeg)) 7 ((st_g (st_p s (st_gp s (10 + (y5).toNatClampNeg)) 8 ((st_g s (st_gp s (10 + (y5).toNatClampNeg)) 8) + (1 : Int32))) (st_gp s (10 + (y5).toNatClampNeg)) 7) + (1 : Int32))) (st_gp s (10 + (y5).toNatClampNeg)) 0) = 0) → ((¬ y4 = 0) → at_X3_passRow_158 X (d + 1) K E (st_p (st_p s (st_gp s (10 + (y5).toNatClampNeg)) 8 ((st_g s (st_gp s (10 + (y5).toNatClampNeg)) 8) + (1 : Int32))) (st_gp s (10 + (y5).toNatClampNeg)) 7 ((st_g (st_p s (st_gp s (10 + (y5).toNatClampNeg)) 8 ((st_g s (st_gp s (10 + (y5).toNatClampNeg)) 8) + (1 : Int32))) (st_gp s (10 + (y5).toNatClampNeg)) 7) + (1 : Int32))) (y3) (y4) (y5) (b2)) ∧ (¬ (¬ y4 = 0) → K (0 : Int32) (st_p (st_p s (st_gp s (10 + (y5).toNatClampNeg)) 8 ((st_g s (st_gp s (10 + (y5).toNatClampNeg)) 8) + (1 : Int32))) (st_gp s (10 + (y5).toNatClampNeg)) 7 ((st_g (st_p s (st_gp s (10 + (y5).toNatClampNeg)) 8 ((st_g s (st_gp s (10 + (y5).toNatClampNeg)) 8) + (1 : Int32))) (st_gp s (10 + (y5).toNatClampNeg)) 7) + (1 : Int32)))))))))) : at_X3_passRow_3 X (d + 1) K E s y3 y4 y5 b2 := by
  show bi_T _ _ _ _ _
  refine bi_Tr 4 (s' := ((if (st_g s 65 2) ≤ y5 then 164 else 12), [(0, .ref 65), (1, .ref 57), (2, .ref b2), (3, .int y3), (4, .int y4), (5, .int y5)], [], st_mm s)) rfl (bi_Tif (fun hc => ?_) (fun hc => ?_))
  · have h := h.1 hc
    refine bi_Tr 1 (s' := (165, [(0, .ref 65), (1, .ref 57), (2, .ref b2), (3, .int y3), (4, .int y4), (5, .int y5)], [.int (1 : Int32)], st_mm s)) rfl ?_
    exact bi_Tv rfl rfl (Or.inl ⟨_, _, rfl, h⟩)
  · have h := h.2 hc
    refine bi_Tr 3 (s' := (18, [(0, .ref 65), (1, .ref 57), (2, .ref b2), (3, .int y3), (4, .int y4), (5, .int y5)], [.int y5, .ref 66], st_mm s)) rfl ?_
    obtain ⟨hi, h⟩ := h
    refine bi_Taal rfl hi ?_
    obtain ⟨h21q1_19, h⟩ := h
    refine bi_Tr 3 (s' := (24, [(6, .ref (st_gp s (10 + (y5).toNatClampNeg))), (0, .ref 65), (1, .ref 57), (2, .ref b2), (3, .int y3), (4, .int y4), (5, .int y5)], [.ref (st_gp s (10 + (y5).toNatClampNeg)), .ref (st_gp s (10 + (y5).toNatClampNeg))], st_mm s)) rfl ?_
    refine bi_Tgi (o := 0) rfl rfl rfl (st_kp0 h21q1_19) ?_
    refine bi_Tr 2 (s' := (29, [(6, .ref (st_gp s (10 + (y5).toNatClampNeg))), (0, .ref 65), (1, .ref 57), (2, .ref b2), (3, .int y3), (4, .int y4), (5, .int y5)], [.int ((st_g s (st_gp s (10 + (y5).toNatClampNeg)) 8) + (1 : Int32)), .ref (st_gp s (10 + (y5).toNatClampNeg))], st_mm s)) rfl ?_
    refine bi_Tpi rfl rfl rfl rfl (st_kp0 h21q1_19) ?_
    refine bi_Tr 2 (s' := (35, [(6, .ref (st_gp s (10 + (y5).toNatClampNeg))), (0, .ref 65), (1, .ref 57), (2, .ref b2), (3, .int y3), (4, .int y4), (5, .int y5)], [.ref (st_gp s (10 + (y5).toNatClampNeg)), .ref (st_gp s (10 + (y5).toNatClampNeg))], st_mm (st_p s (st_gp s (10 + (y5).toNatClampNeg)) 8 ((st_g s (st_gp s (10 + (y5).toNatClampNeg)) 8) + (1 : Int32))))) rfl ?_
    refine bi_Tgi (o := 0) rfl rfl rfl (st_kp0 h21q1_19) ?_
    refine bi_Tr 2 (s' := ((if y4 = 0 then 47 else 43), [(6, .ref (st_gp s (10 + (y5).toNatClampNeg))), (0, .ref 65), (1, .ref 57), (2, .ref b2), (3, .int y3), (4, .int y4), (5, .int y5)], [.int (st_g (st_p s (st_gp s (10 + (y5).toNatClampNeg)) 8 ((st_g s (st_gp s (10 + (y5).toNatClampNeg)) 8) + (1 : Int32))) (st_gp s (10 + (y5).toNatClampNeg)) 7), .ref (st_gp s (10 + (y5).toNatClampNeg))], st_mm (st_p s (st_gp s (10 + (y5).toNatClampNeg)) 8 ((st_g s (st_gp s (10 + (y5).toNatClampNeg)) 8) + (1 : Int32))))) rfl (bi_Tif (fun hc => ?_) (fun hc => ?_))
    · have h := h.1 hc
      refine bi_Tr 2 (s' := (49, [(6, .ref (st_gp s (10 + (y5).toNatClampNeg))), (0, .ref 65), (1, .ref 57), (2, .ref b2), (3, .int y3), (4, .int y4), (5, .int y5)], [.int ((st_g (st_p s (st_gp s (10 + (y5).toNatClampNeg)) 8 ((st_g s (st_gp s (10 + (y5).toNatClampNeg)) 8) + (1 : Int32))) (st_gp s (10 + (y5).toNatClampNeg)) 7) + (0 : Int32)), .ref (st_gp s (10 + (y5).toNatClampNeg))], st_mm (st_p s (st_gp s (10 + (y5).toNatClampNeg)) 8 ((st_g s (st_gp s (10 + (y5).toNatClampNeg)) 8) + (1 : Int32))))) rfl ?_
      refine bi_Tpi rfl rfl rfl rfl (st_kp0 h21q1_19) ?_
      refine bi_Tr 1 (s' := (54, [(6, .ref (st_gp s (10 + (y5).toNatClampNeg))), (0, .ref 65), (1, .ref 57), (2, .ref b2), (3, .int y3), (4, .int y4), (5, .int y5)], [.ref (st_gp s (10 + (y5).toNatClampNeg))], st_mm (st_p (st_p s (st_gp s (10 + (y5).toNatClampNeg)) 8 ((st_g s (st_gp s (10 + (y5).toNatClampNeg)) 8) + (1 : Int32))) (st_gp s (10 + (y5).toNatClampNeg)) 7 ((st_g (st_p s (st_gp s (10 + (y5).toNatClampNeg)) 8 ((st_g s (st_gp s (10 + (y5).toNatClampNeg)) 8) + (1 : Int32))) (st_gp s (10 + (y5).toNatClampNeg)) 7) + (0 : Int32))))) rfl ?_
      refine bi_Tgi (o := 0) rfl rfl rfl (st_kp0 h21q1_19) ?_
      refine bi_Tr 1 (s' := ((if ¬ (st_g (st_p (st_p s (st_gp s (10 + (y5).toNatClampNeg)) 8 ((st_g s (st_gp s (10 + (y5).toNatClampNeg)) 8) + (1 : Int32))) (st_gp s (10 + (y5).toNatClampNeg)) 7 ((st_g (st_p s (st_gp s (10 + (y5).toNatClampNeg)) 8 ((st_g s (st_gp s (10 + (y5).toNatClampNeg)) 8) + (1 : Int32))) (st_gp s (10 + (y5).toNatClampNeg)) 7) + (0 : Int32))) (st_gp s (10 + (y5).toNatClampNeg)) 0) = 0 then 67 else 60), [(6, .ref (st_gp s (10 + (y5).toNatClampNeg))), (0, .ref 65), (1, .ref 57), (2, .ref b2), (3, .int y3), (4, .int y4), (5, .int y5)], [], st_mm (st_p (st_p s (st_gp s (10 + (y5).toNatClampNeg)) 8 ((st_g s (st_gp s (10 + (y5).toNatClampNeg)) 8) + (1 : Int32))) (st_gp s (10 + (y5).toNatClampNeg)) 7 ((st_g (st_p s (st_gp s (10 + (y5).toNatClampNeg)) 8 ((st_g s (st_gp s (10 + (y5).toNatClampNeg)) 8) + (1 : Int32))) (st_gp s (10 + (y5).toNatClampNeg)) 7) + (0 : Int32))))) rfl (bi_Tif (fun hc => ?_) (fun hc => ?_))
      · have h := h.1 hc
        refine bi_Tr 2 (s' := (70, [(6, .ref (st_gp s (10 + (y5).toNatClampNeg))), (0, .ref 65), (1, .ref 57), (2, .ref b2), (3, .int y3), (4, .int y4), (5, .int y5)], [.ref (st_gp s (10 + (y5).toNatClampNeg)), .ref 57], st_mm (st_p (st_p s (st_gp s (10 + (y5).toNatClampNeg)) 8 ((st_g s (st_gp s (10 + (y5).toNatClampNeg)) 8) + (1 : Int32))) (st_gp s (10 + (y5).toNatClampNeg)) 7 ((st_g (st_p s (st_gp s (10 + (y5).toNatClampNeg)) 8 ((st_g s (st_gp s (10 + (y5).toNatClampNeg)) 8) + (1 : Int32))) (st_gp s (10 + (y5).toNatClampNeg)) 7) + (0 : Int32))))) rfl ?_
        refine bi_Tgi (o := 0) rfl rfl rfl (st_kp0 h21q1_19) ?_
        refine bi_TcV (as := [.ref 57, .int (st_g (st_p (st_p s (st_gp s (10 + (y5).toNatClampNeg)) 8 ((st_g s (st_gp s (10 + (y5).toNatClampNeg)) 8) + (1 : Int32))) (st_gp s (10 + (y5).toNatClampNeg)) 7 ((st_g (st_p s (st_gp s (10 + (y5).toNatClampNeg)) 8 ((st_g s (st_gp s (10 + (y5).toNatClampNeg)) 8) + (1 : Int32))) (st_gp s (10 + (y5).toNatClampNeg)) 7) + (0 : Int32))) (st_gp s (10 + (y5).toNatClampNeg)) 3)]) rfl rfl ?_
        refine cV.mono h (fun s1 h => ?_) (fun _ _ h => h.elim)
        refine bi_Tr 2 (s' := (79, [(6, .ref (st_gp s (10 + (y5).toNatClampNeg))), (0, .ref 65), (1, .ref 57), (2, .ref b2), (3, .int y3), (4, .int y4), (5, .int y5)], [.ref (st_gp s (10 + (y5).toNatClampNeg)), .ref 57], st_mm s1)) rfl ?_
        refine bi_Tgi (o := 0) rfl rfl rfl (st_kp0 h21q1_19) ?_
        refine bi_Tr 2 (s' := ((if ¬ (st_g s1 (st_gp s (10 + (y5).toNatClampNeg)) 0) = (1 : Int32) then 96 else 86), [(6, .ref (st_gp s (10 + (y5).toNatClampNeg))), (0, .ref 65), (1, .ref 57), (2, .ref b2), (3, .int y3), (4, .int y4), (5, .int y5)], [.ref 57], st_mm s1)) rfl (bi_Tif (fun hc => ?_) (fun hc => ?_))
        · have h := h.1 hc
          refine bi_Tr 2 (s' := (99, [(6, .ref (st_gp s (10 + (y5).toNatClampNeg))), (0, .ref 65), (1, .ref 57), (2, .ref b2), (3, .int y3), (4, .int y4), (5, .int y5)], [.ref (st_gp s (10 + (y5).toNatClampNeg)), .ref b2, .ref 57], st_mm s1)) rfl ?_
          refine bi_Tgi (o := 0) rfl rfl rfl (st_kp0 h21q1_19) ?_
          refine bi_TcI (as := [.ref 57, .ref b2, .int (st_g s1 (st_gp s (10 + (y5).toNatClampNeg)) 4)]) rfl rfl ?_
          refine cI.mono h (fun r2 s2 h => ?_) (fun _ _ h => h.elim)
          refine bi_Tr 18 (s' := ((if (st_g (st_p (st_p s2 65 6 ((st_g s2 65 6) + (st_g s2 57 8))) 65 7 ((st_g (st_p s2 65 6 ((st_g s2 65 6) + (st_g s2 57 8))) 65 7) + (st_g (st_p s2 65 6 ((st_g s2 65 6) + (st_g s2 57 8))) 57 9))) 57 7) = 0 then 151 else 140), [(7, .int r2), (6, .ref (st_gp s (10 + (y5).toNatClampNeg))), (0, .ref 65), (1, .ref 57), (2, .ref b2), (3, .int y3), (4, .int y4), (5, .int y5)], [], st_mm (st_p (st_p s2 65 6 ((st_g s2 65 6) + (st_g s2 57 8))) 65 7 ((st_g (st_p s2 65 6 ((st_g s2 65 6) + (st_g s2 57 8))) 65 7) + (st_g (st_p s2 65 6 ((st_g s2 65 6) + (st_g s2 57 8))) 57 9))))) rfl (bi_Tif (fun hc => ?_) (fun hc => ?_))
          · have h := h.1 hc
            exact bi_Tww h rfl rfl ⟨rfl, rfl, rfl, rfl, rfl, rfl, rfl, trivial⟩
          · have h := h.2 hc
            refine bi_Tr 6 (s' := (151, [(7, .int r2), (6, .ref (st_gp s (10 + (y5).toNatClampNeg))), (0, .ref 65), (1, .ref 57), (2, .ref b2), (3, .int y3), (4, .int y4), (5, .int y5)], [], st_mm (st_p (st_p (st_p (st_p s2 65 6 ((st_g s2 65 6) + (st_g s2 57 8))) 65 7 ((st_g (st_p s2 65 6 ((st_g s2 65 6) + (st_g s2 57 8))) 65 7) + (st_g (st_p s2 65 6 ((st_g s2 65 6) + (st_g s2 57 8))) 57 9))) 65 4 y3) 65 5 y5))) rfl ?_
            exact bi_Tww h rfl rfl ⟨rfl, rfl, rfl, rfl, rfl, rfl, rfl, trivial⟩
        · have h := h.2 hc
          obtain ⟨h0q4_87, h⟩ := h
          refine bi_Tr 2 (s' := (90, [(6, .ref (st_gp s (10 + (y5).toNatClampNeg))), (0, .ref 65), (1, .ref 57), (2, .ref b2), (3, .int y3), (4, .int y4), (5, .int y5)], [.ref (st_gp s1 7), .ref 57], st_mm s1)) rfl ?_
          refine bi_Tgr rfl rfl rfl (st_kB0 h0q4_87) (st_pB13 h0q4_87) ?_
          refine bi_Tr 2 (s' := (99, [(6, .ref (st_gp s (10 + (y5).toNatClampNeg))), (0, .ref 65), (1, .ref 57), (2, .ref b2), (3, .int y3), (4, .int y4), (5, .int y5)], [.ref (st_gp s (10 + (y5).toNatClampNeg)), .ref ((st_gp s1 7) + 8), .ref 57], st_mm s1)) rfl ?_
          refine bi_Tgi (o := 0) rfl rfl rfl (st_kp0 h21q1_19) ?_
          refine bi_TcI (as := [.ref 57, .ref ((st_gp s1 7) + 8), .int (st_g s1 (st_gp s (10 + (y5).toNatClampNeg)) 4)]) rfl rfl ?_
          refine cI.mono h (fun r3 s3 h => ?_) (fun _ _ h => h.elim)
          refine bi_Tr 18 (s' := ((if (st_g (st_p (st_p s3 65 6 ((st_g s3 65 6) + (st_g s3 57 8))) 65 7 ((st_g (st_p s3 65 6 ((st_g s3 65 6) + (st_g s3 57 8))) 65 7) + (st_g (st_p s3 65 6 ((st_g s3 65 6) + (st_g s3 57 8))) 57 9))) 57 7) = 0 then 151 else 140), [(7, .int r3), (6, .ref (st_gp s (10 + (y5).toNatClampNeg))), (0, .ref 65), (1, .ref 57), (2, .ref b2), (3, .int y3), (4, .int y4), (5, .int y5)], [], st_mm (st_p (st_p s3 65 6 ((st_g s3 65 6) + (st_g s3 57 8))) 65 7 ((st_g (st_p s3 65 6 ((st_g s3 65 6) + (st_g s3 57 8))) 65 7) + (st_g (st_p s3 65 6 ((st_g s3 65 6) + (st_g s3 57 8))) 57 9))))) rfl (bi_Tif (fun hc => ?_) (fun hc => ?_))
          · have h := h.1 hc
            exact bi_Tww h rfl rfl ⟨rfl, rfl, rfl, rfl, rfl, rfl, rfl, trivial⟩
          · have h := h.2 hc
            refine bi_Tr 6 (s' := (151, [(7, .int r3), (6, .ref (st_gp s (10 + (y5).toNatClampNeg))), (0, .ref 65), (1, .ref 57), (2, .ref b2), (3, .int y3), (4, .int y4), (5, .int y5)], [], st_mm (st_p (st_p (st_p (st_p s3 65 6 ((st_g s3 65 6) + (st_g s3 57 8))) 65 7 ((st_g (st_p s3 65 6 ((st_g s3 65 6) + (st_g s3 57 8))) 65 7) + (st_g (st_p s3 65 6 ((st_g s3 65 6) + (st_g s3 57 8))) 57 9))) 65 4 y3) 65 5 y5))) rfl ?_
            exact bi_Tww h rfl rfl ⟨rfl, rfl, rfl, rfl, rfl, rfl, rfl, trivial⟩
      · have h := h.2 hc
        refine bi_Tr 2 (s' := ((if ¬ y4 = 0 then 158 else 65), [(6, .ref (st_gp s (10 + (y5).toNatClampNeg))), (0, .ref 65), (1, .ref 57), (2, .ref b2), (3, .int y3), (4, .int y4), (5, .int y5)], [], st_mm (st_p (st_p s (st_gp s (10 + (y5).toNatClampNeg)) 8 ((st_g s (st_gp s (10 + (y5).toNatClampNeg)) 8) + (1 : Int32))) (st_gp s (10 + (y5).toNatClampNeg)) 7 ((st_g (st_p s (st_gp s (10 + (y5).toNatClampNeg)) 8 ((st_g s (st_gp s (10 + (y5).toNatClampNeg)) 8) + (1 : Int32))) (st_gp s (10 + (y5).toNatClampNeg)) 7) + (0 : Int32))))) rfl (bi_Tif (fun hc => ?_) (fun hc => ?_))
        · have h := h.1 hc
          exact bi_Tww h rfl rfl ⟨rfl, rfl, rfl, rfl, rfl, rfl, trivial⟩
        · have h := h.2 hc
          refine bi_Tr 1 (s' := (66, [(6, .ref (st_gp s (10 + (y5).toNatClampNeg))), (0, .ref 65), (1, .ref 57), (2, .ref b2), (3, .int y3), (4, .int y4), (5, .int y5)], [.int (0 : Int32)], st_mm (st_p (st_p s (st_gp s (10 + (y5).toNatClampNeg)) 8 ((st_g s (st_gp s (10 + (y5).toNatClampNeg)) 8) + (1 : Int32))) (st_gp s (10 + (y5).toNatClampNeg)) 7 ((st_g (st_p s (st_gp s (10 + (y5).toNatClampNeg)) 8 ((st_g s (st_gp s (10 + (y5).toNatClampNeg)) 8) + (1 : Int32))) (st_gp s (10 + (y5).toNatClampNeg)) 7) + (0 : Int32))))) rfl ?_
          exact bi_Tv rfl rfl (Or.inl ⟨_, _, rfl, h⟩)
    · have h := h.2 hc
      refine bi_Tr 3 (s' := (49, [(6, .ref (st_gp s (10 + (y5).toNatClampNeg))), (0, .ref 65), (1, .ref 57), (2, .ref b2), (3, .int y3), (4, .int y4), (5, .int y5)], [.int ((st_g (st_p s (st_gp s (10 + (y5).toNatClampNeg)) 8 ((st_g s (st_gp s (10 + (y5).toNatClampNeg)) 8) + (1 : Int32))) (st_gp s (10 + (y5).toNatClampNeg)) 7) + (1 : Int32)), .ref (st_gp s (10 + (y5).toNatClampNeg))], st_mm (st_p s (st_gp s (10 + (y5).toNatClampNeg)) 8 ((st_g s (st_gp s (10 + (y5).toNatClampNeg)) 8) + (1 : Int32))))) rfl ?_
      refine bi_Tpi rfl rfl rfl rfl (st_kp0 h21q1_19) ?_
      refine bi_Tr 1 (s' := (54, [(6, .ref (st_gp s (10 + (y5).toNatClampNeg))), (0, .ref 65), (1, .ref 57), (2, .ref b2), (3, .int y3), (4, .int y4), (5, .int y5)], [.ref (st_gp s (10 + (y5).toNatClampNeg))], st_mm (st_p (st_p s (st_gp s (10 + (y5).toNatClampNeg)) 8 ((st_g s (st_gp s (10 + (y5).toNatClampNeg)) 8) + (1 : Int32))) (st_gp s (10 + (y5).toNatClampNeg)) 7 ((st_g (st_p s (st_gp s (10 + (y5).toNatClampNeg)) 8 ((st_g s (st_gp s (10 + (y5).toNatClampNeg)) 8) + (1 : Int32))) (st_gp s (10 + (y5).toNatClampNeg)) 7) + (1 : Int32))))) rfl ?_
      refine bi_Tgi (o := 0) rfl rfl rfl (st_kp0 h21q1_19) ?_
      refine bi_Tr 1 (s' := ((if ¬ (st_g (st_p (st_p s (st_gp s (10 + (y5).toNatClampNeg)) 8 ((st_g s (st_gp s (10 + (y5).toNatClampNeg)) 8) + (1 : Int32))) (st_gp s (10 + (y5).toNatClampNeg)) 7 ((st_g (st_p s (st_gp s (10 + (y5).toNatClampNeg)) 8 ((st_g s (st_gp s (10 + (y5).toNatClampNeg)) 8) + (1 : Int32))) (st_gp s (10 + (y5).toNatClampNeg)) 7) + (1 : Int32))) (st_gp s (10 + (y5).toNatClampNeg)) 0) = 0 then 67 else 60), [(6, .ref (st_gp s (10 + (y5).toNatClampNeg))), (0, .ref 65), (1, .ref 57), (2, .ref b2), (3, .int y3), (4, .int y4), (5, .int y5)], [], st_mm (st_p (st_p s (st_gp s (10 + (y5).toNatClampNeg)) 8 ((st_g s (st_gp s (10 + (y5).toNatClampNeg)) 8) + (1 : Int32))) (st_gp s (10 + (y5).toNatClampNeg)) 7 ((st_g (st_p s (st_gp s (10 + (y5).toNatClampNeg)) 8 ((st_g s (st_gp s (10 + (y5).toNatClampNeg)) 8) + (1 : Int32))) (st_gp s (10 + (y5).toNatClampNeg)) 7) + (1 : Int32))))) rfl (bi_Tif (fun hc => ?_) (fun hc => ?_))
      · have h := h.1 hc
        refine bi_Tr 2 (s' := (70, [(6, .ref (st_gp s (10 + (y5).toNatClampNeg))), (0, .ref 65), (1, .ref 57), (2, .ref b2), (3, .int y3), (4, .int y4), (5, .int y5)], [.ref (st_gp s (10 + (y5).toNatClampNeg)), .ref 57], st_mm (st_p (st_p s (st_gp s (10 + (y5).toNatClampNeg)) 8 ((st_g s (st_gp s (10 + (y5).toNatClampNeg)) 8) + (1 : Int32))) (st_gp s (10 + (y5).toNatClampNeg)) 7 ((st_g (st_p s (st_gp s (10 + (y5).toNatClampNeg)) 8 ((st_g s (st_gp s (10 + (y5).toNatClampNeg)) 8) + (1 : Int32))) (st_gp s (10 + (y5).toNatClampNeg)) 7) + (1 : Int32))))) rfl ?_
        refine bi_Tgi (o := 0) rfl rfl rfl (st_kp0 h21q1_19) ?_
        refine bi_TcV (as := [.ref 57, .int (st_g (st_p (st_p s (st_gp s (10 + (y5).toNatClampNeg)) 8 ((st_g s (st_gp s (10 + (y5).toNatClampNeg)) 8) + (1 : Int32))) (st_gp s (10 + (y5).toNatClampNeg)) 7 ((st_g (st_p s (st_gp s (10 + (y5).toNatClampNeg)) 8 ((st_g s (st_gp s (10 + (y5).toNatClampNeg)) 8) + (1 : Int32))) (st_gp s (10 + (y5).toNatClampNeg)) 7) + (1 : Int32))) (st_gp s (10 + (y5).toNatClampNeg)) 3)]) rfl rfl ?_
        refine cV.mono h (fun s4 h => ?_) (fun _ _ h => h.elim)
        refine bi_Tr 2 (s' := (79, [(6, .ref (st_gp s (10 + (y5).toNatClampNeg))), (0, .ref 65), (1, .ref 57), (2, .ref b2), (3, .int y3), (4, .int y4), (5, .int y5)], [.ref (st_gp s (10 + (y5).toNatClampNeg)), .ref 57], st_mm s4)) rfl ?_
        refine bi_Tgi (o := 0) rfl rfl rfl (st_kp0 h21q1_19) ?_
        refine bi_Tr 2 (s' := ((if ¬ (st_g s4 (st_gp s (10 + (y5).toNatClampNeg)) 0) = (1 : Int32) then 96 else 86), [(6, .ref (st_gp s (10 + (y5).toNatClampNeg))), (0, .ref 65), (1, .ref 57), (2, .ref b2), (3, .int y3), (4, .int y4), (5, .int y5)], [.ref 57], st_mm s4)) rfl (bi_Tif (fun hc => ?_) (fun hc => ?_))
        · have h := h.1 hc
          refine bi_Tr 2 (s' := (99, [(6, .ref (st_gp s (10 + (y5).toNatClampNeg))), (0, .ref 65), (1, .ref 57), (2, .ref b2), (3, .int y3), (4, .int y4), (5, .int y5)], [.ref (st_gp s (10 + (y5).toNatClampNeg)), .ref b2, .ref 57], st_mm s4)) rfl ?_
          refine bi_Tgi (o := 0) rfl rfl rfl (st_kp0 h21q1_19) ?_
          refine bi_TcI (as := [.ref 57, .ref b2, .int (st_g s4 (st_gp s (10 + (y5).toNatClampNeg)) 4)]) rfl rfl ?_
          refine cI.mono h (fun r5 s5 h => ?_) (fun _ _ h => h.elim)
          refine bi_Tr 18 (s' := ((if (st_g (st_p (st_p s5 65 6 ((st_g s5 65 6) + (st_g s5 57 8))) 65 7 ((st_g (st_p s5 65 6 ((st_g s5 65 6) + (st_g s5 57 8))) 65 7) + (st_g (st_p s5 65 6 ((st_g s5 65 6) + (st_g s5 57 8))) 57 9))) 57 7) = 0 then 151 else 140), [(7, .int r5), (6, .ref (st_gp s (10 + (y5).toNatClampNeg))), (0, .ref 65), (1, .ref 57), (2, .ref b2), (3, .int y3), (4, .int y4), (5, .int y5)], [], st_mm (st_p (st_p s5 65 6 ((st_g s5 65 6) + (st_g s5 57 8))) 65 7 ((st_g (st_p s5 65 6 ((st_g s5 65 6) + (st_g s5 57 8))) 65 7) + (st_g (st_p s5 65 6 ((st_g s5 65 6) + (st_g s5 57 8))) 57 9))))) rfl (bi_Tif (fun hc => ?_) (fun hc => ?_))
          · have h := h.1 hc
            exact bi_Tww h rfl rfl ⟨rfl, rfl, rfl, rfl, rfl, rfl, rfl, trivial⟩
          · have h := h.2 hc
            refine bi_Tr 6 (s' := (151, [(7, .int r5), (6, .ref (st_gp s (10 + (y5).toNatClampNeg))), (0, .ref 65), (1, .ref 57), (2, .ref b2), (3, .int y3), (4, .int y4), (5, .int y5)], [], st_mm (st_p (st_p (st_p (st_p s5 65 6 ((st_g s5 65 6) + (st_g s5 57 8))) 65 7 ((st_g (st_p s5 65 6 ((st_g s5 65 6) + (st_g s5 57 8))) 65 7) + (st_g (st_p s5 65 6 ((st_g s5 65 6) + (st_g s5 57 8))) 57 9))) 65 4 y3) 65 5 y5))) rfl ?_
            exact bi_Tww h rfl rfl ⟨rfl, rfl, rfl, rfl, rfl, rfl, rfl, trivial⟩
        · have h := h.2 hc
          obtain ⟨h0q4_87, h⟩ := h
          refine bi_Tr 2 (s' := (90, [(6, .ref (st_gp s (10 + (y5).toNatClampNeg))), (0, .ref 65), (1, .ref 57), (2, .ref b2), (3, .int y3), (4, .int y4), (5, .int y5)], [.ref (st_gp s4 7), .ref 57], st_mm s4)) rfl ?_
          refine bi_Tgr rfl rfl rfl (st_kB0 h0q4_87) (st_pB13 h0q4_87) ?_
          refine bi_Tr 2 (s' := (99, [(6, .ref (st_gp s (10 + (y5).toNatClampNeg))), (0, .ref 65), (1, .ref 57), (2, .ref b2), (3, .int y3), (4, .int y4), (5, .int y5)], [.ref (st_gp s (10 + (y5).toNatClampNeg)), .ref ((st_gp s4 7) + 8), .ref 57], st_mm s4)) rfl ?_
          refine bi_Tgi (o := 0) rfl rfl rfl (st_kp0 h21q1_19) ?_
          refine bi_TcI (as := [.ref 57, .ref ((st_gp s4 7) + 8), .int (st_g s4 (st_gp s (10 + (y5).toNatClampNeg)) 4)]) rfl rfl ?_
          refine cI.mono h (fun r6 s6 h => ?_) (fun _ _ h => h.elim)
          refine bi_Tr 18 (s' := ((if (st_g (st_p (st_p s6 65 6 ((st_g s6 65 6) + (st_g s6 57 8))) 65 7 ((st_g (st_p s6 65 6 ((st_g s6 65 6) + (st_g s6 57 8))) 65 7) + (st_g (st_p s6 65 6 ((st_g s6 65 6) + (st_g s6 57 8))) 57 9))) 57 7) = 0 then 151 else 140), [(7, .int r6), (6, .ref (st_gp s (10 + (y5).toNatClampNeg))), (0, .ref 65), (1, .ref 57), (2, .ref b2), (3, .int y3), (4, .int y4), (5, .int y5)], [], st_mm (st_p (st_p s6 65 6 ((st_g s6 65 6) + (st_g s6 57 8))) 65 7 ((st_g (st_p s6 65 6 ((st_g s6 65 6) + (st_g s6 57 8))) 65 7) + (st_g (st_p s6 65 6 ((st_g s6 65 6) + (st_g s6 57 8))) 57 9))))) rfl (bi_Tif (fun hc => ?_) (fun hc => ?_))
          · have h := h.1 hc
            exact bi_Tww h rfl rfl ⟨rfl, rfl, rfl, rfl, rfl, rfl, rfl, trivial⟩
          · have h := h.2 hc
            refine bi_Tr 6 (s' := (151, [(7, .int r6), (6, .ref (st_gp s (10 + (y5).toNatClampNeg))), (0, .ref 65), (1, .ref 57), (2, .ref b2), (3, .int y3), (4, .int y4), (5, .int y5)], [], st_mm (st_p (st_p (st_p (st_p s6 65 6 ((st_g s6 65 6) + (st_g s6 57 8))) 65 7 ((st_g (st_p s6 65 6 ((st_g s6 65 6) + (st_g s6 57 8))) 65 7) + (st_g (st_p s6 65 6 ((st_g s6 65 6) + (st_g s6 57 8))) 57 9))) 65 4 y3) 65 5 y5))) rfl ?_
            exact bi_Tww h rfl rfl ⟨rfl, rfl, rfl, rfl, rfl, rfl, rfl, trivial⟩
      · have h := h.2 hc
        refine bi_Tr 2 (s' := ((if ¬ y4 = 0 then 158 else 65), [(6, .ref (st_gp s (10 + (y5).toNatClampNeg))), (0, .ref 65), (1, .ref 57), (2, .ref b2), (3, .int y3), (4, .int y4), (5, .int y5)], [], st_mm (st_p (st_p s (st_gp s (10 + (y5).toNatClampNeg)) 8 ((st_g s (st_gp s (10 + (y5).toNatClampNeg)) 8) + (1 : Int32))) (st_gp s (10 + (y5).toNatClampNeg)) 7 ((st_g (st_p s (st_gp s (10 + (y5).toNatClampNeg)) 8 ((st_g s (st_gp s (10 + (y5).toNatClampNeg)) 8) + (1 : Int32))) (st_gp s (10 + (y5).toNatClampNeg)) 7) + (1 : Int32))))) rfl (bi_Tif (fun hc => ?_) (fun hc => ?_))
        · have h := h.1 hc
          exact bi_Tww h rfl rfl ⟨rfl, rfl, rfl, rfl, rfl, rfl, trivial⟩
        · have h := h.2 hc
          refine bi_Tr 1 (s' := (66, [(6, .ref (st_gp s (10 + (y5).toNatClampNeg))), (0, .ref 65), (1, .ref 57), (2, .ref b2), (3, .int y3), (4, .int y4), (5, .int y5)], [.int (0 : Int32)], st_mm (st_p (st_p s (st_gp s (10 + (y5).toNatClampNeg)) 8 ((st_g s (st_gp s (10 + (y5).toNatClampNeg)) 8) + (1 : Int32))) (st_gp s (10 + (y5).toNatClampNeg)) 7 ((st_g (st_p s (st_gp s (10 + (y5).toNatClampNeg)) 8 ((st_g s (st_gp s (10 + (y5).toNatClampNeg)) 8) + (1 : Int32))) (st_gp s (10 + (y5).toNatClampNeg)) 7) + (1 : Int32))))) rfl ?_
          exact bi_Tv rfl rfl (Or.inl ⟨_, _, rfl, h⟩)
theorem go_X3_passRow_151 {X : bi_X} {d : Nat} {K : Int32 → bi_St → Prop} {E : Nat → bi_St → Prop}  {s : bi_St} {y3 : Int32} {y4 : Int32} {y5 : Int32} {y7 : Int32} {b2 : Nat} (hb2 : st_isR b2) (h : ((¬ y7 = 0) → at_X3_passRow_158 X (d + 1) K E s (y3) (y4) (y5) (b2)) ∧ (¬ (¬ y7 = 0) → K (0 : Int32) s)) : at_X3_passRow_151 X (d + 1) K E s y3 y4 y5 y7 b2 := by
  show bi_T _ _ _ _ _
  refine bi_Tr 2 (s' := ((if ¬ y7 = 0 then 158 else 156), [(0, .ref 65), (1, .ref 57), (2, .ref b2), (3, .int y3), (4, .int y4), (5, .int y5), (7, .int y7)], [], st_mm s)) rfl (bi_Tif (fun hc => ?_) (fun hc => ?_))
  · have h := h.1 hc
    exact bi_Tww h rfl rfl ⟨rfl, rfl, rfl, rfl, rfl, rfl, trivial⟩
  · have h := h.2 hc
    refine bi_Tr 1 (s' := (157, [(0, .ref 65), (1, .ref 57), (2, .ref b2), (3, .int y3), (4, .int y4), (5, .int y5), (7, .int y7)], [.int (0 : Int32)], st_mm s)) rfl ?_
    exact bi_Tv rfl rfl (Or.inl ⟨_, _, rfl, h⟩)
theorem go_X3_passRow_158 {X : bi_X} {d : Nat} {K : Int32 → bi_St → Prop} {E : Nat → bi_St → Prop}  {s : bi_St} {y3 : Int32} {y4 : Int32} {y5 : Int32} {b2 : Nat} (hb2 : st_isR b2) (h : at_X3_passRow_3 X (d + 1) K E s (y3) (y4) ((y5 + (1 : Int32))) (b2)) : at_X3_passRow_158 X (d + 1) K E s y3 y4 y5 b2 := by
  show bi_T _ _ _ _ _
  refine bi_Tr 2 (s' := (3, [(5, .int (y5 + (1 : Int32))), (0, .ref 65), (1, .ref 57), (2, .ref b2), (3, .int y3), (4, .int y4)], [], st_mm s)) rfl ?_
  exact bi_Tww h rfl rfl ⟨rfl, rfl, rfl, rfl, rfl, rfl, trivial⟩
/-- PolicyRows$Plan.passRow(LPolicyRows$Judge;LPolicyRows$Rules;IZ)Z -/
theorem en_X3_passRow {X : bi_X} {d : Nat} {K : Int32 → bi_St → Prop} {E : Nat → bi_St → Prop} {s : bi_St} {a2 : Nat} {x2 : Int32} {x3 : Int32} (ha2 : st_isR a2) (h : at_X3_passRow_3 X (d + 1) K E s (x2) (x3) ((0 : Int32)) (a2)) : cI X (d + 1) 47 [.ref 65, .ref 57, .ref a2, .int x2, .int x3] s K E := by
  show bi_T _ _ _ _ _
  refine bi_Tr 2 (s' := (3, [(5, .int (0 : Int32)), (0, .ref 65), (1, .ref 57), (2, .ref a2), (3, .int x2), (4, .int x3)], [], st_mm s)) rfl ?_
  exact bi_Tww h rfl rfl ⟨rfl, rfl, rfl, rfl, rfl, rfl, trivial⟩
/-- PolicyRows$Step.set(III)V -/
theorem en_X7_set {X : bi_X} {d : Nat} {K : bi_St → Prop} {E : Nat → bi_St → Prop} {s : bi_St} {a0 : Nat} {x0 : Int32} {x1 : Int32} {x2 : Int32} (ha0 : st_isp a0) (h : K (st_p (st_p (st_p (st_p (st_p (st_p (st_p (st_p s a0 0 x0) a0 1 x1) a0 3 x2) a0 4 (-1 : Int32)) a0 5 (0 : Int32)) a0 6 (0 : Int32)) a0 7 (0 : Int32)) a0 8 (0 : Int32))) : cV X d 87 [.ref a0, .int x0, .int x1, .int x2] s K E := by
  show bi_T _ _ _ _ _
  refine bi_Tr 2 (s' := (2, [(0, .ref a0), (1, .int x0), (2, .int x1), (3, .int x2)], [.int x0, .ref a0], st_mm s)) rfl ?_
  refine bi_Tpi rfl rfl rfl rfl (st_kp0 ha0) ?_
  refine bi_Tr 2 (s' := (7, [(0, .ref a0), (1, .int x0), (2, .int x1), (3, .int x2)], [.int x1, .ref a0], st_mm (st_p s a0 0 x0))) rfl ?_
  refine bi_Tpi rfl rfl rfl rfl (st_kp0 ha0) ?_
  refine bi_Tr 2 (s' := (12, [(0, .ref a0), (1, .int x0), (2, .int x1), (3, .int x2)], [.int x2, .ref a0], st_mm (st_p (st_p s a0 0 x0) a0 1 x1))) rfl ?_
  refine bi_Tpi rfl rfl rfl rfl (st_kp0 ha0) ?_
  refine bi_Tr 2 (s' := (17, [(0, .ref a0), (1, .int x0), (2, .int x1), (3, .int x2)], [.int (-1 : Int32), .ref a0], st_mm (st_p (st_p (st_p s a0 0 x0) a0 1 x1) a0 3 x2))) rfl ?_
  refine bi_Tpi rfl rfl rfl rfl (st_kp0 ha0) ?_
  refine bi_Tr 2 (s' := (22, [(0, .ref a0), (1, .int x0), (2, .int x1), (3, .int x2)], [.int (0 : Int32), .ref a0], st_mm (st_p (st_p (st_p (st_p s a0 0 x0) a0 1 x1) a0 3 x2) a0 4 (-1 : Int32)))) rfl ?_
  refine bi_Tpz rfl rfl rfl rfl (st_kp0 ha0) rfl ?_
  refine bi_Tr 2 (s' := (27, [(0, .ref a0), (1, .int x0), (2, .int x1), (3, .int x2)], [.int (0 : Int32), .ref a0], st_mm (st_p (st_p (st_p (st_p (st_p s a0 0 x0) a0 1 x1) a0 3 x2) a0 4 (-1 : Int32)) a0 5 (0 : Int32)))) rfl ?_
  refine bi_Tpz rfl rfl rfl rfl (st_kp0 ha0) rfl ?_
  refine bi_Tr 2 (s' := (32, [(0, .ref a0), (1, .int x0), (2, .int x1), (3, .int x2)], [.int (0 : Int32), .ref a0], st_mm (st_p (st_p (st_p (st_p (st_p (st_p s a0 0 x0) a0 1 x1) a0 3 x2) a0 4 (-1 : Int32)) a0 5 (0 : Int32)) a0 6 (0 : Int32)))) rfl ?_
  refine bi_Tpi rfl rfl rfl rfl (st_kp0 ha0) ?_
  refine bi_Tr 2 (s' := (37, [(0, .ref a0), (1, .int x0), (2, .int x1), (3, .int x2)], [.int (0 : Int32), .ref a0], st_mm (st_p (st_p (st_p (st_p (st_p (st_p (st_p s a0 0 x0) a0 1 x1) a0 3 x2) a0 4 (-1 : Int32)) a0 5 (0 : Int32)) a0 6 (0 : Int32)) a0 7 (0 : Int32)))) rfl ?_
  refine bi_Tpi rfl rfl rfl rfl (st_kp0 ha0) ?_
  exact bi_Tv rfl rfl (Or.inl ⟨_, rfl, h⟩)
/-- PolicyRows$Step.follow(LPolicyRows$Rules;I)V -/
theorem en_X7_follow {X : bi_X} {d : Nat} {K : bi_St → Prop} {E : Nat → bi_St → Prop} {s : bi_St} {a0 : Nat} {a1 : Nat} {x1 : Int32} (ha0 : st_isp a0) (ha1 : st_isR a1) (h : cI X d 68 [.ref a1, .int x1] (st_p s a0 4 x1) (fun (r1 : Int32) (s1 : bi_St) => cI X d 69 [.ref a1, .int x1] (st_p s1 a0 2 r1) (fun (r2 : Int32) (s2 : bi_St) => bi_bool r2 = true ∧ (K (st_p s2 a0 5 r2))) (fun _ _ => False)) (fun _ _ => False)) : cV X (d + 1) 88 [.ref a0, .ref a1, .int x1] s K E := by
  show bi_T _ _ _ _ _
  refine bi_Tr 2 (s' := (2, [(0, .ref a0), (1, .ref a1), (2, .int x1)], [.int x1, .ref a0], st_mm s)) rfl ?_
  refine bi_Tpi rfl rfl rfl rfl (st_kp0 ha0) ?_
  refine bi_Tr 3 (s' := (8, [(0, .ref a0), (1, .ref a1), (2, .int x1)], [.int x1, .ref a1, .ref a0], st_mm (st_p s a0 4 x1))) rfl ?_
  refine bi_TcI (as := [.ref a1, .int x1]) (bi_TcO rfl rfl rfl (st_kR0 ha1) rfl rfl) rfl ?_
  refine cI.mono h (fun r1 s1 h => ?_) (fun _ _ h => h.elim)
  refine bi_Tpi rfl rfl rfl rfl (st_kp0 ha0) ?_
  refine bi_Tr 3 (s' := (17, [(0, .ref a0), (1, .ref a1), (2, .int x1)], [.int x1, .ref a1, .ref a0], st_mm (st_p s1 a0 2 r1))) rfl ?_
  refine bi_TcI (as := [.ref a1, .int x1]) (bi_TcO rfl rfl rfl (st_kR0 ha1) rfl rfl) rfl ?_
  refine cI.mono h (fun r2 s2 h => ?_) (fun _ _ h => h.elim)
  obtain ⟨hi, h⟩ := h
  refine bi_Tpz rfl rfl rfl rfl (st_kp0 ha0) hi ?_
  exact bi_Tv rfl rfl (Or.inl ⟨_, rfl, h⟩)
/-- PolicyRows$Step.mayGoAheadOf(LPolicyRows$Step;)Z -/
theorem en_X7_mayGoAheadOf {X : bi_X} {d : Nat} {K : Int32 → bi_St → Prop} {E : Nat → bi_St → Prop} {s : bi_St} {a0 : Nat} {a1 : Nat} (ha0 : st_isp a0) (ha1 : st_isp a1) (h : (((st_g s a0 0) = 0) → K (0 : Int32) s) ∧ (¬ ((st_g s a0 0) = 0) → (((st_g s a0 2) < (st_g s a1 2)) → ((¬ (st_g s a0 5) = 0) → K (1 : Int32) s) ∧ (¬ (¬ (st_g s a0 5) = 0) → (((st_g s a1 5) = 0) → K (0 : Int32) s) ∧ (¬ ((st_g s a1 5) = 0) → ((¬ (st_g s a1 6) = 0) → K (0 : Int32) s) ∧ (¬ (¬ (st_g s a1 6) = 0) → K (1 : Int32) s)))) ∧ (¬ ((st_g s a0 2) < (st_g s a1 2)) → K (0 : Int32) s))) : cI X d 89 [.ref a0, .ref a1] s K E := by
  show bi_T _ _ _ _ _
  refine bi_Tr 1 (s' := (1, [(0, .ref a0), (1, .ref a1)], [.ref a0], st_mm s)) rfl ?_
  refine bi_Tgi (o := 0) rfl rfl rfl (st_kp0 ha0) ?_
  refine bi_Tr 1 (s' := ((if (st_g s a0 0) = 0 then 18 else 7), [(0, .ref a0), (1, .ref a1)], [], st_mm s)) rfl (bi_Tif (fun hc => ?_) (fun hc => ?_))
  · have h := h.1 hc
    refine bi_Tr 1 (s' := (19, [(0, .ref a0), (1, .ref a1)], [.int (0 : Int32)], st_mm s)) rfl ?_
    exact bi_Tv rfl rfl (Or.inl ⟨_, _, rfl, h⟩)
  · have h := h.2 hc
    refine bi_Tr 1 (s' := (8, [(0, .ref a0), (1, .ref a1)], [.ref a0], st_mm s)) rfl ?_
    refine bi_Tgi (o := 0) rfl rfl rfl (st_kp0 ha0) ?_
    refine bi_Tr 1 (s' := (12, [(0, .ref a0), (1, .ref a1)], [.ref a1, .int (st_g s a0 2)], st_mm s)) rfl ?_
    refine bi_Tgi (o := 0) rfl rfl rfl (st_kp0 ha1) ?_
    refine bi_Tr 1 (s' := ((if (st_g s a0 2) < (st_g s a1 2) then 20 else 18), [(0, .ref a0), (1, .ref a1)], [], st_mm s)) rfl (bi_Tif (fun hc => ?_) (fun hc => ?_))
    · have h := h.1 hc
      refine bi_Tr 1 (s' := (21, [(0, .ref a0), (1, .ref a1)], [.ref a0], st_mm s)) rfl ?_
      refine bi_Tgi (o := 0) rfl rfl rfl (st_kp0 ha0) ?_
      refine bi_Tr 1 (s' := ((if ¬ (st_g s a0 5) = 0 then 41 else 27), [(0, .ref a0), (1, .ref a1)], [], st_mm s)) rfl (bi_Tif (fun hc => ?_) (fun hc => ?_))
      · have h := h.1 hc
        refine bi_Tr 2 (s' := (46, [(0, .ref a0), (1, .ref a1)], [.int (1 : Int32)], st_mm s)) rfl ?_
        exact bi_Tv rfl rfl (Or.inl ⟨_, _, rfl, h⟩)
      · have h := h.2 hc
        refine bi_Tr 1 (s' := (28, [(0, .ref a0), (1, .ref a1)], [.ref a1], st_mm s)) rfl ?_
        refine bi_Tgi (o := 0) rfl rfl rfl (st_kp0 ha1) ?_
        refine bi_Tr 1 (s' := ((if (st_g s a1 5) = 0 then 45 else 34), [(0, .ref a0), (1, .ref a1)], [], st_mm s)) rfl (bi_Tif (fun hc => ?_) (fun hc => ?_))
        · have h := h.1 hc
          refine bi_Tr 1 (s' := (46, [(0, .ref a0), (1, .ref a1)], [.int (0 : Int32)], st_mm s)) rfl ?_
          exact bi_Tv rfl rfl (Or.inl ⟨_, _, rfl, h⟩)
        · have h := h.2 hc
          refine bi_Tr 1 (s' := (35, [(0, .ref a0), (1, .ref a1)], [.ref a1], st_mm s)) rfl ?_
          refine bi_Tgi (o := 0) rfl rfl rfl (st_kp0 ha1) ?_
          refine bi_Tr 1 (s' := ((if ¬ (st_g s a1 6) = 0 then 45 else 41), [(0, .ref a0), (1, .ref a1)], [], st_mm s)) rfl (bi_Tif (fun hc => ?_) (fun hc => ?_))
          · have h := h.1 hc
            refine bi_Tr 1 (s' := (46, [(0, .ref a0), (1, .ref a1)], [.int (0 : Int32)], st_mm s)) rfl ?_
            exact bi_Tv rfl rfl (Or.inl ⟨_, _, rfl, h⟩)
          · have h := h.2 hc
            refine bi_Tr 2 (s' := (46, [(0, .ref a0), (1, .ref a1)], [.int (1 : Int32)], st_mm s)) rfl ?_
            exact bi_Tv rfl rfl (Or.inl ⟨_, _, rfl, h⟩)
    · have h := h.2 hc
      refine bi_Tr 1 (s' := (19, [(0, .ref a0), (1, .ref a1)], [.int (0 : Int32)], st_mm s)) rfl ?_
      exact bi_Tv rfl rfl (Or.inl ⟨_, _, rfl, h⟩)
/-- PolicyRows$Step.detail(I)I -/
theorem en_X7_detail {X : bi_X} {d : Nat} {K : Int32 → bi_St → Prop} {E : Nat → bi_St → Prop} {s : bi_St} {a0 : Nat} {x0 : Int32} (ha0 : st_isp a0) (h : ((x0 = (0 : Int32)) → K (st_g s a0 0) s) ∧ (¬ (x0 = (0 : Int32)) → ((x0 = (1 : Int32)) → K (st_g s a0 1) s) ∧ (¬ (x0 = (1 : Int32)) → ((x0 = (2 : Int32)) → K (st_g s a0 2) s) ∧ (¬ (x0 = (2 : Int32)) → ((x0 = (3 : Int32)) → (((st_g s a0 5) = 0) → K (0 : Int32) s) ∧ (¬ ((st_g s a0 5) = 0) → K (1 : Int32) s)) ∧ (¬ (x0 = (3 : Int32)) → ((x0 = (4 : Int32)) → K (st_g s a0 7) s) ∧ (¬ (x0 = (4 : Int32)) → K (st_g s a0 8) s)))))) : cI X d 90 [.ref a0, .int x0] s K E := by
  show bi_T _ _ _ _ _
  refine bi_Tr 1 (s' := (1, [(0, .ref a0), (1, .int x0)], [.int x0], st_mm s)) rfl ?_
  refine bi_Tsw rfl (fun t ht => ?_) (bi_swn (b := 69) rfl (by decide) (by decide))
  by_cases hc : x0 = (0 : Int32)
  · rw [hc] at ht; cases ht
    have h := h.1 hc
    refine bi_Tr 1 (s' := (37, [(0, .ref a0), (1, .int x0)], [.ref a0], st_mm s)) rfl ?_
    refine bi_Tgi (o := 0) rfl rfl rfl (st_kp0 ha0) ?_
    exact bi_Tv rfl rfl (Or.inl ⟨_, _, rfl, h⟩)
  have h := h.2 hc
  have hn0 := lv_neT hc (a := 0) rfl
  by_cases hc : x0 = (1 : Int32)
  · rw [hc] at ht; cases ht
    have h := h.1 hc
    refine bi_Tr 1 (s' := (42, [(0, .ref a0), (1, .int x0)], [.ref a0], st_mm s)) rfl ?_
    refine bi_Tgi (o := 0) rfl rfl rfl (st_kp0 ha0) ?_
    exact bi_Tv rfl rfl (Or.inl ⟨_, _, rfl, h⟩)
  have h := h.2 hc
  have hn1 := lv_neT hc (a := 1) rfl
  by_cases hc : x0 = (2 : Int32)
  · rw [hc] at ht; cases ht
    have h := h.1 hc
    refine bi_Tr 1 (s' := (47, [(0, .ref a0), (1, .int x0)], [.ref a0], st_mm s)) rfl ?_
    refine bi_Tgi (o := 0) rfl rfl rfl (st_kp0 ha0) ?_
    exact bi_Tv rfl rfl (Or.inl ⟨_, _, rfl, h⟩)
  have h := h.2 hc
  have hn2 := lv_neT hc (a := 2) rfl
  by_cases hc : x0 = (3 : Int32)
  · rw [hc] at ht; cases ht
    have h := h.1 hc
    refine bi_Tr 1 (s' := (52, [(0, .ref a0), (1, .int x0)], [.ref a0], st_mm s)) rfl ?_
    refine bi_Tgi (o := 0) rfl rfl rfl (st_kp0 ha0) ?_
    refine bi_Tr 1 (s' := ((if (st_g s a0 5) = 0 then 62 else 58), [(0, .ref a0), (1, .int x0)], [], st_mm s)) rfl (bi_Tif (fun hc => ?_) (fun hc => ?_))
    · have h := h.1 hc
      refine bi_Tr 1 (s' := (63, [(0, .ref a0), (1, .int x0)], [.int (0 : Int32)], st_mm s)) rfl ?_
      exact bi_Tv rfl rfl (Or.inl ⟨_, _, rfl, h⟩)
    · have h := h.2 hc
      refine bi_Tr 2 (s' := (63, [(0, .ref a0), (1, .int x0)], [.int (1 : Int32)], st_mm s)) rfl ?_
      exact bi_Tv rfl rfl (Or.inl ⟨_, _, rfl, h⟩)
  have h := h.2 hc
  have hn3 := lv_neT hc (a := 3) rfl
  by_cases hc : x0 = (4 : Int32)
  · rw [hc] at ht; cases ht
    have h := h.1 hc
    refine bi_Tr 1 (s' := (65, [(0, .ref a0), (1, .int x0)], [.ref a0], st_mm s)) rfl ?_
    refine bi_Tgi (o := 0) rfl rfl rfl (st_kp0 ha0) ?_
    exact bi_Tv rfl rfl (Or.inl ⟨_, _, rfl, h⟩)
  have h := h.2 hc
  have hn4 := lv_neT hc (a := 4) rfl
  have ht : bi_tg 1 68 = some t := bi_swd ht (fun h1 h2 => by omega)
  cases ht
  refine bi_Tr 1 (s' := (70, [(0, .ref a0), (1, .int x0)], [.ref a0], st_mm s)) rfl ?_
  refine bi_Tgi (o := 0) rfl rfl rfl (st_kp0 ha0) ?_
  exact bi_Tv rfl rfl (Or.inl ⟨_, _, rfl, h⟩)
/-- PolicyRows$Writer.isNumber(I)Z -/
theorem en_X10_isNumber {X : bi_X} {d : Nat} {K : Int32 → bi_St → Prop} {E : Nat → bi_St → Prop} {s : bi_St} {x0 : Int32}  (h : ((x0 < (-99 : Int32)) → K (0 : Int32) s) ∧ (¬ (x0 < (-99 : Int32)) → (((99 : Int32) < x0) → K (0 : Int32) s) ∧ (¬ ((99 : Int32) < x0) → K (1 : Int32) s))) : cI X d 115 [.int x0] s K E := by
  show bi_T _ _ _ _ _
  refine bi_Tr 3 (s' := ((if x0 < (-99 : Int32) then 16 else 6), [(0, .int x0)], [], st_mm s)) rfl (bi_Tif (fun hc => ?_) (fun hc => ?_))
  · have h := h.1 hc
    refine bi_Tr 1 (s' := (17, [(0, .int x0)], [.int (0 : Int32)], st_mm s)) rfl ?_
    exact bi_Tv rfl rfl (Or.inl ⟨_, _, rfl, h⟩)
  · have h := h.2 hc
    refine bi_Tr 3 (s' := ((if (99 : Int32) < x0 then 16 else 12), [(0, .int x0)], [], st_mm s)) rfl (bi_Tif (fun hc => ?_) (fun hc => ?_))
    · have h := h.1 hc
      refine bi_Tr 1 (s' := (17, [(0, .int x0)], [.int (0 : Int32)], st_mm s)) rfl ?_
      exact bi_Tv rfl rfl (Or.inl ⟨_, _, rfl, h⟩)
    · have h := h.2 hc
      refine bi_Tr 2 (s' := (17, [(0, .int x0)], [.int (1 : Int32)], st_mm s)) rfl ?_
      exact bi_Tv rfl rfl (Or.inl ⟨_, _, rfl, h⟩)
def at_X10_putLine_21 (X : bi_X) (d : Nat) (K : Int32 → bi_St → Prop) (E : Nat → bi_St → Prop) (s : bi_St) (y1 : Int32) (y3 : Int32) (b2 : Nat) : Prop := bi_T X d 116 (21, [(0, .ref 61), (1, .int y1), (2, .ref b2), (3, .int y3)], [], st_mm s) (st_RI K E)
theorem go_X10_putLine_21 {X : bi_X} {d : Nat} {K : Int32 → bi_St → Prop} {E : Nat → bi_St → Prop}  {s : bi_St} {y1 : Int32} {y3 : Int32} {b2 : Nat} (hb2 : st_isS b2) (h : (((4 : Int32) ≤ y3) → cV X d 26 [.ref 57, .int y1] s (fun (s1 : bi_St) => cI X d 31 [.ref 57, .int (1 : Int32), .int (1 : Int32)] s1 (fun (r2 : Int32) (s2 : bi_St) => ((¬ r2 = 0) → cV X d 77 [.ref b2, .ref 59] s2 (fun (s3 : bi_St) => K (1 : Int32) s3) (fun _ _ => False)) ∧ (¬ (¬ r2 = 0) → K (0 : Int32) s2)) (fun _ _ => False)) (fun _ _ => False)) ∧ (¬ ((4 : Int32) ≤ y3) → st_isB (st_gp s 7) ∧ (((y3 < (st_g s (st_gp s 7) 0)) → bi_in y3 4 = true ∧ (cI X d 115 [.int (st_g s 59 (y3).toNatClampNeg)] s (fun (r4 : Int32) (s4 : bi_St) => ((¬ r4 = 0) → at_X10_putLine_21 X (d + 1) K E s4 (y1) ((y3 + (1 : Int32))) (b2)) ∧ (¬ (¬ r4 = 0) → K (0 : Int32) s4)) (fun _ _ => False))) ∧ (¬ (y3 < (st_g s (st_gp s 7) 0)) → bi_in y3 4 = true ∧ (bi_in y3 4 = true ∧ (cI X d 115 [.int (st_g (st_p s 59 (y3).toNatClampNeg (0 : Int32)) 59 (y3).toNatClampNeg)] (st_p s 59 (y3).toNatClampNeg (0 : Int32)) (fun (r5 : Int32) (s5 : bi_St) => ((¬ r5 = 0) → at_X10_putLine_21 X (d + 1) K E s5 (y1) ((y3 + (1 : Int32))) (b2)) ∧ (¬ (¬ r5 = 0) → K (0 : Int32) s5)) (fun _ _ => False))))))) : at_X10_putLine_21 X (d + 1) K E s y1 y3 b2 := by
  show bi_T _ _ _ _ _
  refine bi_Tr 3 (s' := ((if (4 : Int32) ≤ y3 then 73 else 26), [(0, .ref 61), (1, .int y1), (2, .ref b2), (3, .int y3)], [], st_mm s)) rfl (bi_Tif (fun hc => ?_) (fun hc => ?_))
  · have h := h.1 hc
    refine bi_Tr 3 (s' := (78, [(0, .ref 61), (1, .int y1), (2, .ref b2), (3, .int y3)], [.int y1, .ref 57], st_mm s)) rfl ?_
    refine bi_TcV (as := [.ref 57, .int y1]) rfl rfl ?_
    refine cV.mono h (fun s1 h => ?_) (fun _ _ h => h.elim)
    refine bi_Tr 4 (s' := (87, [(0, .ref 61), (1, .int y1), (2, .ref b2), (3, .int y3)], [.int (1 : Int32), .int (1 : Int32), .ref 57], st_mm s1)) rfl ?_
    refine bi_TcI (as := [.ref 57, .int (1 : Int32), .int (1 : Int32)]) rfl rfl ?_
    refine cI.mono h (fun r2 s2 h => ?_) (fun _ _ h => h.elim)
    refine bi_Tr 1 (s' := ((if ¬ r2 = 0 then 95 else 93), [(0, .ref 61), (1, .int y1), (2, .ref b2), (3, .int y3)], [], st_mm s2)) rfl (bi_Tif (fun hc => ?_) (fun hc => ?_))
    · have h := h.1 hc
      refine bi_Tr 4 (s' := (103, [(0, .ref 61), (1, .int y1), (2, .ref b2), (3, .int y3)], [.ref 59, .ref b2], st_mm s2)) rfl ?_
      refine bi_TcV (as := [.ref b2, .ref 59]) (bi_TcO rfl rfl rfl (st_kS0 hb2) rfl rfl) rfl ?_
      refine cV.mono h (fun s3 h => ?_) (fun _ _ h => h.elim)
      refine bi_Tr 1 (s' := (107, [(0, .ref 61), (1, .int y1), (2, .ref b2), (3, .int y3)], [.int (1 : Int32)], st_mm s3)) rfl ?_
      exact bi_Tv rfl rfl (Or.inl ⟨_, _, rfl, h⟩)
    · have h := h.2 hc
      refine bi_Tr 1 (s' := (94, [(0, .ref 61), (1, .int y1), (2, .ref b2), (3, .int y3)], [.int (0 : Int32)], st_mm s2)) rfl ?_
      exact bi_Tv rfl rfl (Or.inl ⟨_, _, rfl, h⟩)
  · have h := h.2 hc
    obtain ⟨h0q1_31, h⟩ := h
    refine bi_Tr 4 (s' := (34, [(0, .ref 61), (1, .int y1), (2, .ref b2), (3, .int y3)], [.ref (st_gp s 7), .int y3], st_mm s)) rfl ?_
    refine bi_Tgi (o := 0) rfl rfl rfl (st_kB0 h0q1_31) ?_
    refine bi_Tr 1 (s' := ((if y3 < (st_g s (st_gp s 7) 0) then 50 else 40), [(0, .ref 61), (1, .int y1), (2, .ref b2), (3, .int y3)], [], st_mm s)) rfl (bi_Tif (fun hc => ?_) (fun hc => ?_))
    · have h := h.1 hc
      refine bi_Tr 4 (s' := (58, [(0, .ref 61), (1, .int y1), (2, .ref b2), (3, .int y3)], [.int y3, .ref 59], st_mm s)) rfl ?_
      obtain ⟨hi, h⟩ := h
      refine bi_Tial rfl rfl rfl hi ?_
      refine bi_TcI (as := [.int (st_g s 59 (y3).toNatClampNeg)]) rfl rfl ?_
      refine cI.mono h (fun r4 s4 h => ?_) (fun _ _ h => h.elim)
      refine bi_Tr 1 (s' := ((if ¬ r4 = 0 then 67 else 65), [(0, .ref 61), (1, .int y1), (2, .ref b2), (3, .int y3)], [], st_mm s4)) rfl (bi_Tif (fun hc => ?_) (fun hc => ?_))
      · have h := h.1 hc
        refine bi_Tr 2 (s' := (21, [(3, .int (y3 + (1 : Int32))), (0, .ref 61), (1, .int y1), (2, .ref b2)], [], st_mm s4)) rfl ?_
        exact bi_Tww h rfl rfl ⟨rfl, rfl, rfl, rfl, trivial⟩
      · have h := h.2 hc
        refine bi_Tr 1 (s' := (66, [(0, .ref 61), (1, .int y1), (2, .ref b2), (3, .int y3)], [.int (0 : Int32)], st_mm s4)) rfl ?_
        exact bi_Tv rfl rfl (Or.inl ⟨_, _, rfl, h⟩)
    · have h := h.2 hc
      refine bi_Tr 5 (s' := (49, [(0, .ref 61), (1, .int y1), (2, .ref b2), (3, .int y3)], [.int (0 : Int32), .int y3, .ref 59], st_mm s)) rfl ?_
      obtain ⟨hi, h⟩ := h
      refine bi_Tias rfl rfl hi ?_
      refine bi_Tr 4 (s' := (58, [(0, .ref 61), (1, .int y1), (2, .ref b2), (3, .int y3)], [.int y3, .ref 59], st_mm (st_p s 59 (y3).toNatClampNeg (0 : Int32)))) rfl ?_
      obtain ⟨hi, h⟩ := h
      refine bi_Tial rfl rfl rfl hi ?_
      refine bi_TcI (as := [.int (st_g (st_p s 59 (y3).toNatClampNeg (0 : Int32)) 59 (y3).toNatClampNeg)]) rfl rfl ?_
      refine cI.mono h (fun r5 s5 h => ?_) (fun _ _ h => h.elim)
      refine bi_Tr 1 (s' := ((if ¬ r5 = 0 then 67 else 65), [(0, .ref 61), (1, .int y1), (2, .ref b2), (3, .int y3)], [], st_mm s5)) rfl (bi_Tif (fun hc => ?_) (fun hc => ?_))
      · have h := h.1 hc
        refine bi_Tr 2 (s' := (21, [(3, .int (y3 + (1 : Int32))), (0, .ref 61), (1, .int y1), (2, .ref b2)], [], st_mm s5)) rfl ?_
        exact bi_Tww h rfl rfl ⟨rfl, rfl, rfl, rfl, trivial⟩
      · have h := h.2 hc
        refine bi_Tr 1 (s' := (66, [(0, .ref 61), (1, .int y1), (2, .ref b2), (3, .int y3)], [.int (0 : Int32)], st_mm s5)) rfl ?_
        exact bi_Tv rfl rfl (Or.inl ⟨_, _, rfl, h⟩)
/-- PolicyRows$Writer.putLine(I)Z -/
theorem en_X10_putLine {X : bi_X} {d : Nat} {K : Int32 → bi_St → Prop} {E : Nat → bi_St → Prop} {s : bi_St} {x0 : Int32}  (h : st_isS (st_gp s 8) ∧ ((((st_g s (st_gp s 8) 0) < (16 : Int32)) → at_X10_putLine_21 X (d + 1) K E s (x0) ((0 : Int32)) ((st_gp s 8))) ∧ (¬ ((st_g s (st_gp s 8) 0) < (16 : Int32)) → K (0 : Int32) s))) : cI X (d + 1) 116 [.ref 61, .int x0] s K E := by
  show bi_T _ _ _ _ _
  obtain ⟨h0q0_4, h⟩ := h
  refine bi_Tr 5 (s' := (9, [(2, .ref (st_gp s 8)), (0, .ref 61), (1, .int x0)], [.ref (st_gp s 8)], st_mm s)) rfl ?_
  refine bi_Tgi (o := 0) rfl rfl rfl (st_kS0 h0q0_4) ?_
  refine bi_Tr 2 (s' := ((if (st_g s (st_gp s 8) 0) < (16 : Int32) then 19 else 17), [(2, .ref (st_gp s 8)), (0, .ref 61), (1, .int x0)], [], st_mm s)) rfl (bi_Tif (fun hc => ?_) (fun hc => ?_))
  · have h := h.1 hc
    refine bi_Tr 2 (s' := (21, [(3, .int (0 : Int32)), (2, .ref (st_gp s 8)), (0, .ref 61), (1, .int x0)], [], st_mm s)) rfl ?_
    exact bi_Tww h rfl rfl ⟨rfl, rfl, rfl, rfl, trivial⟩
  · have h := h.2 hc
    refine bi_Tr 1 (s' := (18, [(2, .ref (st_gp s 8)), (0, .ref 61), (1, .int x0)], [.int (0 : Int32)], st_mm s)) rfl ?_
    exact bi_Tv rfl rfl (Or.inl ⟨_, _, rfl, h⟩)
/-- PolicyRows$Writer.change(IIII)I -/
theorem en_X10_change {X : bi_X} {d : Nat} {K : Int32 → bi_St → Prop} {E : Nat → bi_St → Prop} {s : bi_St} {x0 : Int32} {x1 : Int32} {x2 : Int32} {x3 : Int32}  (h : cI X d 115 [.int x3] s (fun (r1 : Int32) (s1 : bi_St) => ((¬ r1 = 0) → cI X d 119 [.ref 61, .int x0, .int x1, .int (2 : Int32)] s1 (fun (r2 : Int32) (s2 : bi_St) => ((r2 = 0) → K (0 : Int32) s2) ∧ (¬ (r2 = 0) → ((x2 < 0) → K (0 : Int32) s2) ∧ (¬ (x2 < 0) → ((x2 < (4 : Int32)) → bi_in x2 4 = true ∧ (cI X d 31 [.ref 57, .int (2 : Int32), .int (1 : Int32)] (st_p s2 59 (x2).toNatClampNeg x3) (fun (r3 : Int32) (s3 : bi_St) => ((¬ r3 = 0) → st_isS (st_gp s3 8) ∧ (cV X d 78 [.ref (st_gp s3 8), .int x1, .int x2, .int x3] s3 (fun (s4 : bi_St) => K (1 : Int32) s4) (fun _ _ => False))) ∧ (¬ (¬ r3 = 0) → K (-1 : Int32) s3)) (fun _ _ => False))) ∧ (¬ (x2 < (4 : Int32)) → K (0 : Int32) s2)))) (fun _ _ => False)) ∧ (¬ (¬ r1 = 0) → K (-1 : Int32) s1)) (fun _ _ => False)) : cI X (d + 1) 117 [.ref 61, .int x0, .int x1, .int x2, .int x3] s K E := by
  show bi_T _ _ _ _ _
  refine bi_Tr 1 (s' := (2, [(0, .ref 61), (1, .int x0), (2, .int x1), (3, .int x2), (4, .int x3)], [.int x3], st_mm s)) rfl ?_
  refine bi_TcI (as := [.int x3]) rfl rfl ?_
  refine cI.mono h (fun r1 s1 h => ?_) (fun _ _ h => h.elim)
  refine bi_Tr 1 (s' := ((if ¬ r1 = 0 then 10 else 8), [(0, .ref 61), (1, .int x0), (2, .int x1), (3, .int x2), (4, .int x3)], [], st_mm s1)) rfl (bi_Tif (fun hc => ?_) (fun hc => ?_))
  · have h := h.1 hc
    refine bi_Tr 4 (s' := (14, [(0, .ref 61), (1, .int x0), (2, .int x1), (3, .int x2), (4, .int x3)], [.int (2 : Int32), .int x1, .int x0, .ref 61], st_mm s1)) rfl ?_
    refine bi_TcI (as := [.ref 61, .int x0, .int x1, .int (2 : Int32)]) rfl rfl ?_
    refine cI.mono h (fun r2 s2 h => ?_) (fun _ _ h => h.elim)
    refine bi_Tr 1 (s' := ((if r2 = 0 then 29 else 20), [(0, .ref 61), (1, .int x0), (2, .int x1), (3, .int x2), (4, .int x3)], [], st_mm s2)) rfl (bi_Tif (fun hc => ?_) (fun hc => ?_))
    · have h := h.1 hc
      refine bi_Tr 1 (s' := (30, [(0, .ref 61), (1, .int x0), (2, .int x1), (3, .int x2), (4, .int x3)], [.int (0 : Int32)], st_mm s2)) rfl ?_
      exact bi_Tv rfl rfl (Or.inl ⟨_, _, rfl, h⟩)
    · have h := h.2 hc
      refine bi_Tr 2 (s' := ((if x2 < 0 then 29 else 24), [(0, .ref 61), (1, .int x0), (2, .int x1), (3, .int x2), (4, .int x3)], [], st_mm s2)) rfl (bi_Tif (fun hc => ?_) (fun hc => ?_))
      · have h := h.1 hc
        refine bi_Tr 1 (s' := (30, [(0, .ref 61), (1, .int x0), (2, .int x1), (3, .int x2), (4, .int x3)], [.int (0 : Int32)], st_mm s2)) rfl ?_
        exact bi_Tv rfl rfl (Or.inl ⟨_, _, rfl, h⟩)
      · have h := h.2 hc
        refine bi_Tr 3 (s' := ((if x2 < (4 : Int32) then 31 else 29), [(0, .ref 61), (1, .int x0), (2, .int x1), (3, .int x2), (4, .int x3)], [], st_mm s2)) rfl (bi_Tif (fun hc => ?_) (fun hc => ?_))
        · have h := h.1 hc
          refine bi_Tr 5 (s' := (41, [(0, .ref 61), (1, .int x0), (2, .int x1), (3, .int x2), (4, .int x3)], [.int x3, .int x2, .ref 59], st_mm s2)) rfl ?_
          obtain ⟨hi, h⟩ := h
          refine bi_Tias rfl rfl hi ?_
          refine bi_Tr 4 (s' := (48, [(0, .ref 61), (1, .int x0), (2, .int x1), (3, .int x2), (4, .int x3)], [.int (1 : Int32), .int (2 : Int32), .ref 57], st_mm (st_p s2 59 (x2).toNatClampNeg x3))) rfl ?_
          refine bi_TcI (as := [.ref 57, .int (2 : Int32), .int (1 : Int32)]) rfl rfl ?_
          refine cI.mono h (fun r3 s3 h => ?_) (fun _ _ h => h.elim)
          refine bi_Tr 1 (s' := ((if ¬ r3 = 0 then 56 else 54), [(0, .ref 61), (1, .int x0), (2, .int x1), (3, .int x2), (4, .int x3)], [], st_mm s3)) rfl (bi_Tif (fun hc => ?_) (fun hc => ?_))
          · have h := h.1 hc
            obtain ⟨h0q5_60, h⟩ := h
            refine bi_Tr 6 (s' := (67, [(0, .ref 61), (1, .int x0), (2, .int x1), (3, .int x2), (4, .int x3)], [.int x3, .int x2, .int x1, .ref (st_gp s3 8)], st_mm s3)) rfl ?_
            refine bi_TcV (as := [.ref (st_gp s3 8), .int x1, .int x2, .int x3]) (bi_TcO rfl rfl rfl (st_kS0 h0q5_60) rfl rfl) rfl ?_
            refine cV.mono h (fun s4 h => ?_) (fun _ _ h => h.elim)
            refine bi_Tr 1 (s' := (71, [(0, .ref 61), (1, .int x0), (2, .int x1), (3, .int x2), (4, .int x3)], [.int (1 : Int32)], st_mm s4)) rfl ?_
            exact bi_Tv rfl rfl (Or.inl ⟨_, _, rfl, h⟩)
          · have h := h.2 hc
            refine bi_Tr 1 (s' := (55, [(0, .ref 61), (1, .int x0), (2, .int x1), (3, .int x2), (4, .int x3)], [.int (-1 : Int32)], st_mm s3)) rfl ?_
            exact bi_Tv rfl rfl (Or.inl ⟨_, _, rfl, h⟩)
        · have h := h.2 hc
          refine bi_Tr 1 (s' := (30, [(0, .ref 61), (1, .int x0), (2, .int x1), (3, .int x2), (4, .int x3)], [.int (0 : Int32)], st_mm s2)) rfl ?_
          exact bi_Tv rfl rfl (Or.inl ⟨_, _, rfl, h⟩)
  · have h := h.2 hc
    refine bi_Tr 1 (s' := (9, [(0, .ref 61), (1, .int x0), (2, .int x1), (3, .int x2), (4, .int x3)], [.int (-1 : Int32)], st_mm s1)) rfl ?_
    exact bi_Tv rfl rfl (Or.inl ⟨_, _, rfl, h⟩)
/-- PolicyRows$Writer.drop(II)Z -/
theorem en_X10_drop {X : bi_X} {d : Nat} {K : Int32 → bi_St → Prop} {E : Nat → bi_St → Prop} {s : bi_St} {x0 : Int32} {x1 : Int32}  (h : cI X d 119 [.ref 61, .int x0, .int x1, .int (3 : Int32)] s (fun (r1 : Int32) (s1 : bi_St) => ((¬ r1 = 0) → st_isS (st_gp s1 8) ∧ (cV X d 79 [.ref (st_gp s1 8), .int x1] s1 (fun (s2 : bi_St) => K (1 : Int32) s2) (fun _ _ => False))) ∧ (¬ (¬ r1 = 0) → K (0 : Int32) s1)) (fun _ _ => False)) : cI X (d + 1) 118 [.ref 61, .int x0, .int x1] s K E := by
  show bi_T _ _ _ _ _
  refine bi_Tr 4 (s' := (4, [(0, .ref 61), (1, .int x0), (2, .int x1)], [.int (3 : Int32), .int x1, .int x0, .ref 61], st_mm s)) rfl ?_
  refine bi_TcI (as := [.ref 61, .int x0, .int x1, .int (3 : Int32)]) rfl rfl ?_
  refine cI.mono h (fun r1 s1 h => ?_) (fun _ _ h => h.elim)
  refine bi_Tr 1 (s' := ((if ¬ r1 = 0 then 12 else 10), [(0, .ref 61), (1, .int x0), (2, .int x1)], [], st_mm s1)) rfl (bi_Tif (fun hc => ?_) (fun hc => ?_))
  · have h := h.1 hc
    obtain ⟨h0q1_16, h⟩ := h
    refine bi_Tr 4 (s' := (20, [(0, .ref 61), (1, .int x0), (2, .int x1)], [.int x1, .ref (st_gp s1 8)], st_mm s1)) rfl ?_
    refine bi_TcV (as := [.ref (st_gp s1 8), .int x1]) (bi_TcO rfl rfl rfl (st_kS0 h0q1_16) rfl rfl) rfl ?_
    refine cV.mono h (fun s2 h => ?_) (fun _ _ h => h.elim)
    refine bi_Tr 1 (s' := (24, [(0, .ref 61), (1, .int x0), (2, .int x1)], [.int (1 : Int32)], st_mm s2)) rfl ?_
    exact bi_Tv rfl rfl (Or.inl ⟨_, _, rfl, h⟩)
  · have h := h.2 hc
    refine bi_Tr 1 (s' := (11, [(0, .ref 61), (1, .int x0), (2, .int x1)], [.int (0 : Int32)], st_mm s1)) rfl ?_
    exact bi_Tv rfl rfl (Or.inl ⟨_, _, rfl, h⟩)
/-- PolicyRows$Writer.canReach(III)Z -/
theorem en_X10_canReach {X : bi_X} {d : Nat} {K : Int32 → bi_St → Prop} {E : Nat → bi_St → Prop} {s : bi_St} {x0 : Int32} {x1 : Int32} {x2 : Int32}  (h : ((x1 < 0) → K (0 : Int32) s) ∧ (¬ (x1 < 0) → st_isS (st_gp s 8) ∧ (((x1 < (st_g s (st_gp s 8) 0)) → cV X d 26 [.ref 57, .int x0] s (fun (s1 : bi_St) => cV X d 27 [.ref 57, .int x1] s1 (fun (s2 : bi_St) => cI X d 31 [.ref 57, .int (0 : Int32), .int (0 : Int32)] s2 (fun (r3 : Int32) (s3 : bi_St) => ((r3 = 0) → K (0 : Int32) s3) ∧ (¬ (r3 = 0) → cI X d 31 [.ref 57, .int x2, .int (0 : Int32)] s3 (fun (r4 : Int32) (s4 : bi_St) => ((r4 = 0) → K (0 : Int32) s4) ∧ (¬ (r4 = 0) → K (1 : Int32) s4)) (fun _ _ => False))) (fun _ _ => False)) (fun _ _ => False)) (fun _ _ => False)) ∧ (¬ (x1 < (st_g s (st_gp s 8) 0)) → K (0 : Int32) s)))) : cI X (d + 1) 119 [.ref 61, .int x0, .int x1, .int x2] s K E := by
  show bi_T _ _ _ _ _
  refine bi_Tr 2 (s' := ((if x1 < 0 then 18 else 4), [(0, .ref 61), (1, .int x0), (2, .int x1), (3, .int x2)], [], st_mm s)) rfl (bi_Tif (fun hc => ?_) (fun hc => ?_))
  · have h := h.1 hc
    refine bi_Tr 1 (s' := (19, [(0, .ref 61), (1, .int x0), (2, .int x1), (3, .int x2)], [.int (0 : Int32)], st_mm s)) rfl ?_
    exact bi_Tv rfl rfl (Or.inl ⟨_, _, rfl, h⟩)
  · have h := h.2 hc
    obtain ⟨h0q1_9, h⟩ := h
    refine bi_Tr 4 (s' := (12, [(0, .ref 61), (1, .int x0), (2, .int x1), (3, .int x2)], [.ref (st_gp s 8), .int x1], st_mm s)) rfl ?_
    refine bi_Tgi (o := 0) rfl rfl rfl (st_kS0 h0q1_9) ?_
    refine bi_Tr 1 (s' := ((if x1 < (st_g s (st_gp s 8) 0) then 20 else 18), [(0, .ref 61), (1, .int x0), (2, .int x1), (3, .int x2)], [], st_mm s)) rfl (bi_Tif (fun hc => ?_) (fun hc => ?_))
    · have h := h.1 hc
      refine bi_Tr 3 (s' := (25, [(0, .ref 61), (1, .int x0), (2, .int x1), (3, .int x2)], [.int x0, .ref 57], st_mm s)) rfl ?_
      refine bi_TcV (as := [.ref 57, .int x0]) rfl rfl ?_
      refine cV.mono h (fun s1 h => ?_) (fun _ _ h => h.elim)
      refine bi_Tr 3 (s' := (33, [(0, .ref 61), (1, .int x0), (2, .int x1), (3, .int x2)], [.int x1, .ref 57], st_mm s1)) rfl ?_
      refine bi_TcV (as := [.ref 57, .int x1]) rfl rfl ?_
      refine cV.mono h (fun s2 h => ?_) (fun _ _ h => h.elim)
      refine bi_Tr 4 (s' := (42, [(0, .ref 61), (1, .int x0), (2, .int x1), (3, .int x2)], [.int (0 : Int32), .int (0 : Int32), .ref 57], st_mm s2)) rfl ?_
      refine bi_TcI (as := [.ref 57, .int (0 : Int32), .int (0 : Int32)]) rfl rfl ?_
      refine cI.mono h (fun r3 s3 h => ?_) (fun _ _ h => h.elim)
      refine bi_Tr 1 (s' := ((if r3 = 0 then 64 else 48), [(0, .ref 61), (1, .int x0), (2, .int x1), (3, .int x2)], [], st_mm s3)) rfl (bi_Tif (fun hc => ?_) (fun hc => ?_))
      · have h := h.1 hc
        refine bi_Tr 1 (s' := (65, [(0, .ref 61), (1, .int x0), (2, .int x1), (3, .int x2)], [.int (0 : Int32)], st_mm s3)) rfl ?_
        exact bi_Tv rfl rfl (Or.inl ⟨_, _, rfl, h⟩)
      · have h := h.2 hc
        refine bi_Tr 4 (s' := (54, [(0, .ref 61), (1, .int x0), (2, .int x1), (3, .int x2)], [.int (0 : Int32), .int x2, .ref 57], st_mm s3)) rfl ?_
        refine bi_TcI (as := [.ref 57, .int x2, .int (0 : Int32)]) rfl rfl ?_
        refine cI.mono h (fun r4 s4 h => ?_) (fun _ _ h => h.elim)
        refine bi_Tr 1 (s' := ((if r4 = 0 then 64 else 60), [(0, .ref 61), (1, .int x0), (2, .int x1), (3, .int x2)], [], st_mm s4)) rfl (bi_Tif (fun hc => ?_) (fun hc => ?_))
        · have h := h.1 hc
          refine bi_Tr 1 (s' := (65, [(0, .ref 61), (1, .int x0), (2, .int x1), (3, .int x2)], [.int (0 : Int32)], st_mm s4)) rfl ?_
          exact bi_Tv rfl rfl (Or.inl ⟨_, _, rfl, h⟩)
        · have h := h.2 hc
          refine bi_Tr 2 (s' := (65, [(0, .ref 61), (1, .int x0), (2, .int x1), (3, .int x2)], [.int (1 : Int32)], st_mm s4)) rfl ?_
          exact bi_Tv rfl rfl (Or.inl ⟨_, _, rfl, h⟩)
    · have h := h.2 hc
      refine bi_Tr 1 (s' := (19, [(0, .ref 61), (1, .int x0), (2, .int x1), (3, .int x2)], [.int (0 : Int32)], st_mm s)) rfl ?_
      exact bi_Tv rfl rfl (Or.inl ⟨_, _, rfl, h⟩)
def at_X10_passYear_27 (X : bi_X) (d : Nat) (K : Int32 → bi_St → Prop) (E : Nat → bi_St → Prop) (s : bi_St) (y1 : Int32) (y3 : Int32) : Prop := bi_T X d 120 (27, [(0, .ref 61), (1, .int y1), (3, .int y3)], [], st_mm s) (st_RI K E)
theorem go_X10_passYear_27 {X : bi_X} {d : Nat} {K : Int32 → bi_St → Prop} {E : Nat → bi_St → Prop}  {s : bi_St} {y1 : Int32} {y3 : Int32}  (h : st_isB (st_gp s 7) ∧ ((((st_g s (st_gp s 7) 0) ≤ y3) → cI X d 116 [.ref 61, .int y1] s (fun (r8 : Int32) (s8 : bi_St) => bi_bool r8 = true ∧ (K r8 s8)) (fun _ _ => False)) ∧ (¬ ((st_g s (st_gp s 7) 0) ≤ y3) → (((4 : Int32) ≤ y3) → cI X d 116 [.ref 61, .int y1] s (fun (r9 : Int32) (s9 : bi_St) => bi_bool r9 = true ∧ (K r9 s9)) (fun _ _ => False)) ∧ (¬ ((4 : Int32) ≤ y3) → cI X d 121 [.ref 61, .int (10 : Int32)] s (fun (r10 : Int32) (s10 : bi_St) => bi_in y3 4 = true ∧ (at_X10_passYear_27 X (d + 1) K E (st_p s10 59 (y3).toNatClampNeg r10) (y1) ((y3 + (1 : Int32))))) (fun _ _ => False))))) : at_X10_passYear_27 X (d + 1) K E s y1 y3 := by
  show bi_T _ _ _ _ _
  obtain ⟨h0q0_32, h⟩ := h
  refine bi_Tr 4 (s' := (35, [(0, .ref 61), (1, .int y1), (3, .int y3)], [.ref (st_gp s 7), .int y3], st_mm s)) rfl ?_
  refine bi_Tgi (o := 0) rfl rfl rfl (st_kB0 h0q0_32) ?_
  refine bi_Tr 1 (s' := ((if (st_g s (st_gp s 7) 0) ≤ y3 then 67 else 41), [(0, .ref 61), (1, .int y1), (3, .int y3)], [], st_mm s)) rfl (bi_Tif (fun hc => ?_) (fun hc => ?_))
  · have h := h.1 hc
    refine bi_Tr 2 (s' := (69, [(0, .ref 61), (1, .int y1), (3, .int y3)], [.int y1, .ref 61], st_mm s)) rfl ?_
    refine bi_TcI (as := [.ref 61, .int y1]) rfl rfl ?_
    refine cI.mono h (fun r8 s8 h => ?_) (fun _ _ h => h.elim)
    obtain ⟨hi, h⟩ := h
    exact bi_Tv rfl hi (Or.inl ⟨_, _, rfl, h⟩)
  · have h := h.2 hc
    refine bi_Tr 3 (s' := ((if (4 : Int32) ≤ y3 then 67 else 46), [(0, .ref 61), (1, .int y1), (3, .int y3)], [], st_mm s)) rfl (bi_Tif (fun hc => ?_) (fun hc => ?_))
    · have h := h.1 hc
      refine bi_Tr 2 (s' := (69, [(0, .ref 61), (1, .int y1), (3, .int y3)], [.int y1, .ref 61], st_mm s)) rfl ?_
      refine bi_TcI (as := [.ref 61, .int y1]) rfl rfl ?_
      refine cI.mono h (fun r9 s9 h => ?_) (fun _ _ h => h.elim)
      obtain ⟨hi, h⟩ := h
      exact bi_Tv rfl hi (Or.inl ⟨_, _, rfl, h⟩)
    · have h := h.2 hc
      refine bi_Tr 6 (s' := (57, [(0, .ref 61), (1, .int y1), (3, .int y3)], [.int (10 : Int32), .ref 61, .int y3, .ref 59], st_mm s)) rfl ?_
      refine bi_TcI (as := [.ref 61, .int (10 : Int32)]) rfl rfl ?_
      refine cI.mono h (fun r10 s10 h => ?_) (fun _ _ h => h.elim)
      obtain ⟨hi, h⟩ := h
      refine bi_Tias rfl rfl hi ?_
      refine bi_Tr 2 (s' := (27, [(3, .int (y3 + (1 : Int32))), (0, .ref 61), (1, .int y1)], [], st_mm (st_p s10 59 (y3).toNatClampNeg r10))) rfl ?_
      exact bi_Tww h rfl rfl ⟨rfl, rfl, rfl, trivial⟩
/-- PolicyRows$Writer.passYear()Z -/
theorem en_X10_passYear {X : bi_X} {d : Nat} {K : Int32 → bi_St → Prop} {E : Nat → bi_St → Prop} {s : bi_St}   (h : st_isB (st_gp s 7) ∧ (cI X d 121 [.ref 61, .int (st_g s (st_gp s 7) 1)] s (fun (r1 : Int32) (s1 : bi_St) => cI X d 121 [.ref 61, .int (3 : Int32)] s1 (fun (r2 : Int32) (s2 : bi_St) => ((¬ r2 = 0) → st_isS (st_gp s2 8) ∧ ((((1 : Int32) ≤ (st_g s2 (st_gp s2 8) 0)) → st_isS (st_gp s2 8) ∧ (cI X d 121 [.ref 61, .int (st_g s2 (st_gp s2 8) 0)] s2 (fun (r3 : Int32) (s3 : bi_St) => ((¬ r2 = (2 : Int32)) → st_isB (st_gp s3 7) ∧ (cI X d 121 [.ref 61, .int (st_g s3 (st_gp s3 7) 0)] s3 (fun (r4 : Int32) (s4 : bi_St) => cI X d 121 [.ref 61, .int (10 : Int32)] s4 (fun (r5 : Int32) (s5 : bi_St) => cI X d 117 [.ref 61, .int r1, .int r3, .int r4, .int r5] s5 (fun (r6 : Int32) (s6 : bi_St) => ((¬ r6 = (1 : Int32)) → K (0 : Int32) s6) ∧ (¬ (¬ r6 = (1 : Int32)) → K (1 : Int32) s6)) (fun _ _ => False)) (fun _ _ => False)) (fun _ _ => False))) ∧ (¬ (¬ r2 = (2 : Int32)) → cI X d 118 [.ref 61, .int r1, .int r3] s3 (fun (r7 : Int32) (s7 : bi_St) => bi_bool r7 = true ∧ (K r7 s7)) (fun _ _ => False))) (fun _ _ => False))) ∧ (¬ ((1 : Int32) ≤ (st_g s2 (st_gp s2 8) 0)) → K (0 : Int32) s2))) ∧ (¬ (¬ r2 = 0) → at_X10_passYear_27 X (d + 1) K E s2 (r1) ((0 : Int32)))) (fun _ _ => False)) (fun _ _ => False))) : cI X (d + 1) 120 [.ref 61] s K E := by
  show bi_T _ _ _ _ _
  obtain ⟨h0q0_5, h⟩ := h
  refine bi_Tr 4 (s' := (8, [(0, .ref 61)], [.ref (st_gp s 7), .ref 61], st_mm s)) rfl ?_
  refine bi_Tgi (o := 0) rfl rfl rfl (st_kB0 h0q0_5) ?_
  refine bi_TcI (as := [.ref 61, .int (st_g s (st_gp s 7) 1)]) rfl rfl ?_
  refine cI.mono h (fun r1 s1 h => ?_) (fun _ _ h => h.elim)
  refine bi_Tr 3 (s' := (17, [(1, .int r1), (0, .ref 61)], [.int (3 : Int32), .ref 61], st_mm s1)) rfl ?_
  refine bi_TcI (as := [.ref 61, .int (3 : Int32)]) rfl rfl ?_
  refine cI.mono h (fun r2 s2 h => ?_) (fun _ _ h => h.elim)
  refine bi_Tr 3 (s' := ((if ¬ r2 = 0 then 73 else 25), [(2, .int r2), (1, .int r1), (0, .ref 61)], [], st_mm s2)) rfl (bi_Tif (fun hc => ?_) (fun hc => ?_))
  · have h := h.1 hc
    obtain ⟨h0q1_77, h⟩ := h
    refine bi_Tr 3 (s' := (80, [(2, .int r2), (1, .int r1), (0, .ref 61)], [.ref (st_gp s2 8)], st_mm s2)) rfl ?_
    refine bi_Tgi (o := 0) rfl rfl rfl (st_kS0 h0q1_77) ?_
    refine bi_Tr 2 (s' := ((if (1 : Int32) ≤ (st_g s2 (st_gp s2 8) 0) then 89 else 87), [(2, .int r2), (1, .int r1), (0, .ref 61)], [], st_mm s2)) rfl (bi_Tif (fun hc => ?_) (fun hc => ?_))
    · have h := h.1 hc
      obtain ⟨h0q2_94, h⟩ := h
      refine bi_Tr 4 (s' := (97, [(2, .int r2), (1, .int r1), (0, .ref 61)], [.ref (st_gp s2 8), .ref 61], st_mm s2)) rfl ?_
      refine bi_Tgi (o := 0) rfl rfl rfl (st_kS0 h0q2_94) ?_
      refine bi_TcI (as := [.ref 61, .int (st_g s2 (st_gp s2 8) 0)]) rfl rfl ?_
      refine cI.mono h (fun r3 s3 h => ?_) (fun _ _ h => h.elim)
      refine bi_Tr 4 (s' := ((if ¬ r2 = (2 : Int32) then 116 else 109), [(3, .int r3), (2, .int r2), (1, .int r1), (0, .ref 61)], [], st_mm s3)) rfl (bi_Tif (fun hc => ?_) (fun hc => ?_))
      · have h := h.1 hc
        obtain ⟨h0q3_121, h⟩ := h
        refine bi_Tr 4 (s' := (124, [(3, .int r3), (2, .int r2), (1, .int r1), (0, .ref 61)], [.ref (st_gp s3 7), .ref 61], st_mm s3)) rfl ?_
        refine bi_Tgi (o := 0) rfl rfl rfl (st_kB0 h0q3_121) ?_
        refine bi_TcI (as := [.ref 61, .int (st_g s3 (st_gp s3 7) 0)]) rfl rfl ?_
        refine cI.mono h (fun r4 s4 h => ?_) (fun _ _ h => h.elim)
        refine bi_Tr 7 (s' := (140, [(4, .int r4), (3, .int r3), (2, .int r2), (1, .int r1), (0, .ref 61)], [.int (10 : Int32), .ref 61, .int r4, .int r3, .int r1, .ref 61], st_mm s4)) rfl ?_
        refine bi_TcI (as := [.ref 61, .int (10 : Int32)]) rfl rfl ?_
        refine cI.mono h (fun r5 s5 h => ?_) (fun _ _ h => h.elim)
        refine bi_TcI (as := [.ref 61, .int r1, .int r3, .int r4, .int r5]) rfl rfl ?_
        refine cI.mono h (fun r6 s6 h => ?_) (fun _ _ h => h.elim)
        refine bi_Tr 2 (s' := ((if ¬ r6 = (1 : Int32) then 154 else 150), [(4, .int r4), (3, .int r3), (2, .int r2), (1, .int r1), (0, .ref 61)], [], st_mm s6)) rfl (bi_Tif (fun hc => ?_) (fun hc => ?_))
        · have h := h.1 hc
          refine bi_Tr 1 (s' := (155, [(4, .int r4), (3, .int r3), (2, .int r2), (1, .int r1), (0, .ref 61)], [.int (0 : Int32)], st_mm s6)) rfl ?_
          exact bi_Tv rfl rfl (Or.inl ⟨_, _, rfl, h⟩)
        · have h := h.2 hc
          refine bi_Tr 2 (s' := (155, [(4, .int r4), (3, .int r3), (2, .int r2), (1, .int r1), (0, .ref 61)], [.int (1 : Int32)], st_mm s6)) rfl ?_
          exact bi_Tv rfl rfl (Or.inl ⟨_, _, rfl, h⟩)
      · have h := h.2 hc
        refine bi_Tr 3 (s' := (112, [(3, .int r3), (2, .int r2), (1, .int r1), (0, .ref 61)], [.int r3, .int r1, .ref 61], st_mm s3)) rfl ?_
        refine bi_TcI (as := [.ref 61, .int r1, .int r3]) rfl rfl ?_
        refine cI.mono h (fun r7 s7 h => ?_) (fun _ _ h => h.elim)
        obtain ⟨hi, h⟩ := h
        exact bi_Tv rfl hi (Or.inl ⟨_, _, rfl, h⟩)
    · have h := h.2 hc
      refine bi_Tr 1 (s' := (88, [(2, .int r2), (1, .int r1), (0, .ref 61)], [.int (0 : Int32)], st_mm s2)) rfl ?_
      exact bi_Tv rfl rfl (Or.inl ⟨_, _, rfl, h⟩)
  · have h := h.2 hc
    refine bi_Tr 2 (s' := (27, [(3, .int (0 : Int32)), (2, .int r2), (1, .int r1), (0, .ref 61)], [], st_mm s2)) rfl ?_
    exact bi_Tww h rfl rfl ⟨rfl, rfl, rfl, trivial⟩
/-- PolicyRows$Writer.draw(I)I -/
theorem en_X10_draw {X : bi_X} {d : Nat} {K : Int32 → bi_St → Prop} {E : Nat → bi_St → Prop} {s : bi_St} {x0 : Int32}  (h : ((x0 ≤ 0) → K (0 : Int32) (st_p s 61 1 (((st_g s 61 1) * (1103515245 : Int32)) + (12345 : Int32)))) ∧ (¬ (x0 ≤ 0) → ¬ x0 = 0 ∧ (K ((((st_g (st_p s 61 1 (((st_g s 61 1) * (1103515245 : Int32)) + (12345 : Int32))) 61 1) >>> ((16 : Int32) &&& 31)) &&& (32767 : Int32)) - (((st_g (st_p s 61 1 (((st_g s 61 1) * (1103515245 : Int32)) + (12345 : Int32))) 61 1) >>> ((16 : Int32) &&& 31)) &&& (32767 : Int32)) / x0 * x0) (st_p s 61 1 (((st_g s 61 1) * (1103515245 : Int32)) + (12345 : Int32)))))) : cI X d 121 [.ref 61, .int x0] s K E := by
  show bi_T _ _ _ _ _
  refine bi_Tr 10 (s' := ((if x0 ≤ 0 then 35 else 19), [(0, .ref 61), (1, .int x0)], [], st_mm (st_p s 61 1 (((st_g s 61 1) * (1103515245 : Int32)) + (12345 : Int32))))) rfl (bi_Tif (fun hc => ?_) (fun hc => ?_))
  · have h := h.1 hc
    refine bi_Tr 1 (s' := (36, [(0, .ref 61), (1, .int x0)], [.int (0 : Int32)], st_mm (st_p s 61 1 (((st_g s 61 1) * (1103515245 : Int32)) + (12345 : Int32))))) rfl ?_
    exact bi_Tv rfl rfl (Or.inl ⟨_, _, rfl, h⟩)
  · have h := h.2 hc
    refine bi_Tr 7 (s' := (31, [(0, .ref 61), (1, .int x0)], [.int x0, .int (((st_g (st_p s 61 1 (((st_g s 61 1) * (1103515245 : Int32)) + (12345 : Int32))) 61 1) >>> ((16 : Int32) &&& 31)) &&& (32767 : Int32))], st_mm (st_p s 61 1 (((st_g s 61 1) * (1103515245 : Int32)) + (12345 : Int32))))) rfl ?_
    obtain ⟨hi, h⟩ := h
    refine bi_Trem rfl hi ?_
    refine bi_Tr 1 (s' := (36, [(0, .ref 61), (1, .int x0)], [.int ((((st_g (st_p s 61 1 (((st_g s 61 1) * (1103515245 : Int32)) + (12345 : Int32))) 61 1) >>> ((16 : Int32) &&& 31)) &&& (32767 : Int32)) - (((st_g (st_p s 61 1 (((st_g s 61 1) * (1103515245 : Int32)) + (12345 : Int32))) 61 1) >>> ((16 : Int32) &&& 31)) &&& (32767 : Int32)) / x0 * x0)], st_mm (st_p s 61 1 (((st_g s 61 1) * (1103515245 : Int32)) + (12345 : Int32))))) rfl ?_
    exact bi_Tv rfl rfl (Or.inl ⟨_, _, rfl, h⟩)
