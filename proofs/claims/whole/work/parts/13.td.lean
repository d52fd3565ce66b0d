def at_X1_sights_4 (X : bi_X) (d : Nat) (K : Int32 → bi_St → Prop) (E : Nat → bi_St → Prop) (s : bi_St) (y1 : Int32) (y2 : Int32) : Prop := bi_T X d 3 (4, [(0, .ref 62), (1, .int y1), (2, .int y2)], [], st_mm s) (st_RI K E)
theorem go_X1_sights_4 {X : bi_X} {d : Nat} {K : Int32 → bi_St → Prop} {E : Nat → bi_St → Prop}  {s : bi_St} {y1 : Int32} {y2 : Int32}  (h : st_isB (st_gp s 7) ∧ ((((st_g s (st_gp s 7) 1) ≤ y2) → K y1 s) ∧ (¬ ((st_g s (st_gp s 7) 1) ≤ y2) → cI X d 32 [.ref 57, .int y2] s (fun (r1 : Int32) (s1 : bi_St) => cI X d 268 [.int r1] s1 (fun (r2 : Int32) (s2 : bi_St) => at_X1_sights_4 X (d + 1) K E s2 ((y1 + r2)) ((y2 + (1 : Int32)))) (fun _ _ => False)) (fun _ _ => False)))) : at_X1_sights_4 X (d + 1) K E s y1 y2 := by
  show bi_T _ _ _ _ _
  obtain ⟨h0q0_9, h⟩ := h
  refine bi_Tr 4 (s' := (12, [(0, .ref 62), (1, .int y1), (2, .int y2)], [.ref (st_gp s 7), .int y2], st_mm s)) rfl ?_
  refine bi_Tgi (o := 0) rfl rfl rfl (st_kB0 h0q0_9) ?_
  refine bi_Tr 1 (s' := ((if (st_g s (st_gp s 7) 1) ≤ y2 then 38 else 18), [(0, .ref 62), (1, .int y1), (2, .int y2)], [], st_mm s)) rfl (bi_Tif (fun hc => ?_) (fun hc => ?_))
  · have h := h.1 hc
    refine bi_Tr 1 (s' := (39, [(0, .ref 62), (1, .int y1), (2, .int y2)], [.int y1], st_mm s)) rfl ?_
    exact bi_Tv rfl rfl (Or.inl ⟨_, _, rfl, h⟩)
  · have h := h.2 hc
    refine bi_Tr 4 (s' := (24, [(0, .ref 62), (1, .int y1), (2, .int y2)], [.int y2, .ref 57, .int y1], st_mm s)) rfl ?_
    refine bi_TcI (as := [.ref 57, .int y2]) rfl rfl ?_
    refine cI.mono h (fun r1 s1 h => ?_) (fun _ _ h => h.elim)
    refine bi_TcI (as := [.int r1]) rfl rfl ?_
    refine cI.mono h (fun r2 s2 h => ?_) (fun _ _ h => h.elim)
    refine bi_Tr 4 (s' := (4, [(2, .int (y2 + (1 : Int32))), (1, .int (y1 + r2)), (0, .ref 62)], [], st_mm s2)) rfl ?_
    exact bi_Tww h rfl rfl ⟨rfl, rfl, rfl, trivial⟩
/-- PolicyRows$Insight.sights()I -/
theorem en_X1_sights {X : bi_X} {d : Nat} {K : Int32 → bi_St → Prop} {E : Nat → bi_St → Prop} {s : bi_St}   (h : at_X1_sights_4 X (d + 1) K E s ((0 : Int32)) ((0 : Int32))) : cI X (d + 1) 3 [.ref 62] s K E := by
  show bi_T _ _ _ _ _
  refine bi_Tr 4 (s' := (4, [(2, .int (0 : Int32)), (1, .int (0 : Int32)), (0, .ref 62)], [], st_mm s)) rfl ?_
  exact bi_Tww h rfl rfl ⟨rfl, rfl, rfl, trivial⟩
def at_X1_weight_4 (X : bi_X) (d : Nat) (K : Int32 → bi_St → Prop) (E : Nat → bi_St → Prop) (s : bi_St) (y1 : Int32) (y2 : Int32) (y3 : Int32) : Prop := bi_T X d 4 (4, [(0, .ref 62), (1, .int y1), (2, .int y2), (3, .int y3)], [], st_mm s) (st_RI K E)
def at_X1_weight_29 (X : bi_X) (d : Nat) (K : Int32 → bi_St → Prop) (E : Nat → bi_St → Prop) (s : bi_St) (y1 : Int32) (y2 : Int32) (y3 : Int32) (y4 : Int32) : Prop := bi_T X d 4 (29, [(0, .ref 62), (1, .int y1), (2, .int y2), (3, .int y3), (4, .int y4)], [], st_mm s) (st_RI K E)
theorem go_X1_weight_4 {X : bi_X} {d : Nat} {K : Int32 → bi_St → Prop} {E : Nat → bi_St → Prop}  {s : bi_St} {y1 : Int32} {y2 : Int32} {y3 : Int32}  (h : st_isB (st_gp s 7) ∧ ((((st_g s (st_gp s 7) 1) ≤ y3) → K y2 s) ∧ (¬ ((st_g s (st_gp s 7) 1) ≤ y3) → cV X d 26 [.ref 57, .int y3] s (fun (s1 : bi_St) => at_X1_weight_29 X (d + 1) K E s1 (y1) (y2) (y3) ((0 : Int32))) (fun _ _ => False)))) : at_X1_weight_4 X (d + 1) K E s y1 y2 y3 := by
  show bi_T _ _ _ _ _
  obtain ⟨h0q0_9, h⟩ := h
  refine bi_Tr 4 (s' := (12, [(0, .ref 62), (1, .int y1), (2, .int y2), (3, .int y3)], [.ref (st_gp s 7), .int y3], st_mm s)) rfl ?_
  refine bi_Tgi (o := 0) rfl rfl rfl (st_kB0 h0q0_9) ?_
  refine bi_Tr 1 (s' := ((if (st_g s (st_gp s 7) 1) ≤ y3 then 76 else 18), [(0, .ref 62), (1, .int y1), (2, .int y2), (3, .int y3)], [], st_mm s)) rfl (bi_Tif (fun hc => ?_) (fun hc => ?_))
  · have h := h.1 hc
    refine bi_Tr 1 (s' := (77, [(0, .ref 62), (1, .int y1), (2, .int y2), (3, .int y3)], [.int y2], st_mm s)) rfl ?_
    exact bi_Tv rfl rfl (Or.inl ⟨_, _, rfl, h⟩)
  · have h := h.2 hc
    refine bi_Tr 3 (s' := (23, [(0, .ref 62), (1, .int y1), (2, .int y2), (3, .int y3)], [.int y3, .ref 57], st_mm s)) rfl ?_
    refine bi_TcV (as := [.ref 57, .int y3]) rfl rfl ?_
    refine cV.mono h (fun s1 h => ?_) (fun _ _ h => h.elim)
    refine bi_Tr 2 (s' := (29, [(4, .int (0 : Int32)), (0, .ref 62), (1, .int y1), (2, .int y2), (3, .int y3)], [], st_mm s1)) rfl ?_
    exact bi_Tww h rfl rfl ⟨rfl, rfl, rfl, rfl, rfl, trivial⟩
theorem go_X1_weight_29 {X : bi_X} {d : Nat} {K : Int32 → bi_St → Prop} {E : Nat → bi_St → Prop}  {s : bi_St} {y1 : Int32} {y2 : Int32} {y3 : Int32} {y4 : Int32}  (h : st_isS (st_gp s 8) ∧ ((((st_g s (st_gp s 8) 0) ≤ y4) → at_X1_weight_4 X (d + 1) K E s (y1) (y2) ((y3 + (1 : Int32)))) ∧ (¬ ((st_g s (st_gp s 8) 0) ≤ y4) → cV X d 27 [.ref 57, .int y4] s (fun (s2 : bi_St) => cI X d 6 [.ref 62] s2 (fun (r3 : Int32) (s3 : bi_St) => cI X d 160 [.int r3, .int y1] s3 (fun (r4 : Int32) (s4 : bi_St) => at_X1_weight_29 X (d + 1) K E s4 (y1) ((y2 + r4)) (y3) ((y4 + (1 : Int32)))) (fun _ _ => False)) (fun _ _ => False)) (fun _ _ => False)))) : at_X1_weight_29 X (d + 1) K E s y1 y2 y3 y4 := by
  show bi_T _ _ _ _ _
  obtain ⟨h0q0_35, h⟩ := h
  refine bi_Tr 4 (s' := (38, [(0, .ref 62), (1, .int y1), (2, .int y2), (3, .int y3), (4, .int y4)], [.ref (st_gp s 8), .int y4], st_mm s)) rfl ?_
  refine bi_Tgi (o := 0) rfl rfl rfl (st_kS0 h0q0_35) ?_
  refine bi_Tr 1 (s' := ((if (st_g s (st_gp s 8) 0) ≤ y4 then 70 else 44), [(0, .ref 62), (1, .int y1), (2, .int y2), (3, .int y3), (4, .int y4)], [], st_mm s)) rfl (bi_Tif (fun hc => ?_) (fun hc => ?_))
  · have h := h.1 hc
    refine bi_Tr 2 (s' := (4, [(3, .int (y3 + (1 : Int32))), (0, .ref 62), (1, .int y1), (2, .int y2), (4, .int y4)], [], st_mm s)) rfl ?_
    exact bi_Tww h rfl rfl ⟨rfl, rfl, rfl, rfl, trivial⟩
  · have h := h.2 hc
    refine bi_Tr 3 (s' := (50, [(0, .ref 62), (1, .int y1), (2, .int y2), (3, .int y3), (4, .int y4)], [.int y4, .ref 57], st_mm s)) rfl ?_
    refine bi_TcV (as := [.ref 57, .int y4]) rfl rfl ?_
    refine cV.mono h (fun s2 h => ?_) (fun _ _ h => h.elim)
    refine bi_Tr 2 (s' := (55, [(0, .ref 62), (1, .int y1), (2, .int y2), (3, .int y3), (4, .int y4)], [.ref 62, .int y2], st_mm s2)) rfl ?_
    refine bi_TcI (as := [.ref 62]) rfl rfl ?_
    refine cI.mono h (fun r3 s3 h => ?_) (fun _ _ h => h.elim)
    refine bi_Tr 1 (s' := (59, [(0, .ref 62), (1, .int y1), (2, .int y2), (3, .int y3), (4, .int y4)], [.int y1, .int r3, .int y2], st_mm s3)) rfl ?_
    refine bi_TcI (as := [.int r3, .int y1]) rfl rfl ?_
    refine cI.mono h (fun r4 s4 h => ?_) (fun _ _ h => h.elim)
    refine bi_Tr 4 (s' := (29, [(4, .int (y4 + (1 : Int32))), (2, .int (y2 + r4)), (0, .ref 62), (1, .int y1), (3, .int y3)], [], st_mm s4)) rfl ?_
    exact bi_Tww h rfl rfl ⟨rfl, rfl, rfl, rfl, rfl, trivial⟩
/-- PolicyRows$Insight.weight(I)I -/
theorem en_X1_weight {X : bi_X} {d : Nat} {K : Int32 → bi_St → Prop} {E : Nat → bi_St → Prop} {s : bi_St} {x0 : Int32}  (h : at_X1_weight_4 X (d + 1) K E s (x0) ((0 : Int32)) ((0 : Int32))) : cI X (d + 1) 4 [.ref 62, .int x0] s K E := by
  show bi_T _ _ _ _ _
  refine bi_Tr 4 (s' := (4, [(3, .int (0 : Int32)), (2, .int (0 : Int32)), (0, .ref 62), (1, .int x0)], [], st_mm s)) rfl ?_
  exact bi_Tww h rfl rfl ⟨rfl, rfl, rfl, rfl, trivial⟩
def at_X1_needless_4 (X : bi_X) (d : Nat) (K : Int32 → bi_St → Prop) (E : Nat → bi_St → Prop) (s : bi_St) (y1 : Int32) (y2 : Int32) : Prop := bi_T X d 5 (4, [(0, .ref 62), (1, .int y1), (2, .int y2)], [], st_mm s) (st_RI K E)
def at_X1_needless_28 (X : bi_X) (d : Nat) (K : Int32 → bi_St → Prop) (E : Nat → bi_St → Prop) (s : bi_St) (y1 : Int32) (y2 : Int32) (y3 : Int32) : Prop := bi_T X d 5 (28, [(0, .ref 62), (1, .int y1), (2, .int y2), (3, .int y3)], [], st_mm s) (st_RI K E)
theorem go_X1_needless_4 {X : bi_X} {d : Nat} {K : Int32 → bi_St → Prop} {E : Nat → bi_St → Prop}  {s : bi_St} {y1 : Int32} {y2 : Int32}  (h : st_isB (st_gp s 7) ∧ ((((st_g s (st_gp s 7) 1) ≤ y2) → st_isS (st_gp s 8) ∧ (K ((st_g s (st_gp s 8) 3) &&& (y1 ^^^ (-1 : Int32))) s)) ∧ (¬ ((st_g s (st_gp s 7) 1) ≤ y2) → cV X d 26 [.ref 57, .int y2] s (fun (s1 : bi_St) => at_X1_needless_28 X (d + 1) K E s1 (y1) (y2) ((0 : Int32))) (fun _ _ => False)))) : at_X1_needless_4 X (d + 1) K E s y1 y2 := by
  show bi_T _ _ _ _ _
  obtain ⟨h0q0_9, h⟩ := h
  refine bi_Tr 4 (s' := (12, [(0, .ref 62), (1, .int y1), (2, .int y2)], [.ref (st_gp s 7), .int y2], st_mm s)) rfl ?_
  refine bi_Tgi (o := 0) rfl rfl rfl (st_kB0 h0q0_9) ?_
  refine bi_Tr 1 (s' := ((if (st_g s (st_gp s 7) 1) ≤ y2 then 69 else 18), [(0, .ref 62), (1, .int y1), (2, .int y2)], [], st_mm s)) rfl (bi_Tif (fun hc => ?_) (fun hc => ?_))
  · have h := h.1 hc
    obtain ⟨h0q1_73, h⟩ := h
    refine bi_Tr 3 (s' := (76, [(0, .ref 62), (1, .int y1), (2, .int y2)], [.ref (st_gp s 8)], st_mm s)) rfl ?_
    refine bi_Tgi (o := 0) rfl rfl rfl (st_kS0 h0q1_73) ?_
    refine bi_Tr 4 (s' := (83, [(0, .ref 62), (1, .int y1), (2, .int y2)], [.int ((st_g s (st_gp s 8) 3) &&& (y1 ^^^ (-1 : Int32)))], st_mm s)) rfl ?_
    exact bi_Tv rfl rfl (Or.inl ⟨_, _, rfl, h⟩)
  · have h := h.2 hc
    refine bi_Tr 3 (s' := (23, [(0, .ref 62), (1, .int y1), (2, .int y2)], [.int y2, .ref 57], st_mm s)) rfl ?_
    refine bi_TcV (as := [.ref 57, .int y2]) rfl rfl ?_
    refine cV.mono h (fun s1 h => ?_) (fun _ _ h => h.elim)
    refine bi_Tr 2 (s' := (28, [(3, .int (0 : Int32)), (0, .ref 62), (1, .int y1), (2, .int y2)], [], st_mm s1)) rfl ?_
    exact bi_Tww h rfl rfl ⟨rfl, rfl, rfl, rfl, trivial⟩
theorem go_X1_needless_28 {X : bi_X} {d : Nat} {K : Int32 → bi_St → Prop} {E : Nat → bi_St → Prop}  {s : bi_St} {y1 : Int32} {y2 : Int32} {y3 : Int32}  (h : st_isS (st_gp s 8) ∧ ((((st_g s (st_gp s 8) 0) ≤ y3) → at_X1_needless_4 X (d + 1) K E s (y1) ((y2 + (1 : Int32)))) ∧ (¬ ((st_g s (st_gp s 8) 0) ≤ y3) → cV X d 27 [.ref 57, .int y3] s (fun (s2 : bi_St) => cI X d 6 [.ref 62] s2 (fun (r3 : Int32) (s3 : bi_St) => at_X1_needless_28 X (d + 1) K E s3 ((y1 ||| r3)) (y2) ((y3 + (1 : Int32)))) (fun _ _ => False)) (fun _ _ => False)))) : at_X1_needless_28 X (d + 1) K E s y1 y2 y3 := by
  show bi_T _ _ _ _ _
  obtain ⟨h0q0_33, h⟩ := h
  refine bi_Tr 4 (s' := (36, [(0, .ref 62), (1, .int y1), (2, .int y2), (3, .int y3)], [.ref (st_gp s 8), .int y3], st_mm s)) rfl ?_
  refine bi_Tgi (o := 0) rfl rfl rfl (st_kS0 h0q0_33) ?_
  refine bi_Tr 1 (s' := ((if (st_g s (st_gp s 8) 0) ≤ y3 then 63 else 42), [(0, .ref 62), (1, .int y1), (2, .int y2), (3, .int y3)], [], st_mm s)) rfl (bi_Tif (fun hc => ?_) (fun hc => ?_))
  · have h := h.1 hc
    refine bi_Tr 2 (s' := (4, [(2, .int (y2 + (1 : Int32))), (0, .ref 62), (1, .int y1), (3, .int y3)], [], st_mm s)) rfl ?_
    exact bi_Tww h rfl rfl ⟨rfl, rfl, rfl, trivial⟩
  · have h := h.2 hc
    refine bi_Tr 3 (s' := (47, [(0, .ref 62), (1, .int y1), (2, .int y2), (3, .int y3)], [.int y3, .ref 57], st_mm s)) rfl ?_
    refine bi_TcV (as := [.ref 57, .int y3]) rfl rfl ?_
    refine cV.mono h (fun s2 h => ?_) (fun _ _ h => h.elim)
    refine bi_Tr 2 (s' := (52, [(0, .ref 62), (1, .int y1), (2, .int y2), (3, .int y3)], [.ref 62, .int y1], st_mm s2)) rfl ?_
    refine bi_TcI (as := [.ref 62]) rfl rfl ?_
    refine cI.mono h (fun r3 s3 h => ?_) (fun _ _ h => h.elim)
    refine bi_Tr 4 (s' := (28, [(3, .int (y3 + (1 : Int32))), (1, .int (y1 ||| r3)), (0, .ref 62), (2, .int y2)], [], st_mm s3)) rfl ?_
    exact bi_Tww h rfl rfl ⟨rfl, rfl, rfl, rfl, trivial⟩
/-- PolicyRows$Insight.needless()I -/
theorem en_X1_needless {X : bi_X} {d : Nat} {K : Int32 → bi_St → Prop} {E : Nat → bi_St → Prop} {s : bi_St}   (h : at_X1_needless_4 X (d + 1) K E s ((0 : Int32)) ((0 : Int32))) : cI X (d + 1) 5 [.ref 62] s K E := by
  show bi_T _ _ _ _ _
  refine bi_Tr 4 (s' := (4, [(2, .int (0 : Int32)), (1, .int (0 : Int32)), (0, .ref 62)], [], st_mm s)) rfl ?_
  exact bi_Tww h rfl rfl ⟨rfl, rfl, rfl, trivial⟩
def at_X1_turning_52 (X : bi_X) (d : Nat) (K : Int32 → bi_St → Prop) (E : Nat → bi_St → Prop) (s : bi_St) (y1 : Int32) (y2 : Int32) (y3 : Int32) (y4 : Int32) (y5 : Int32) (y6 : Int32) : Prop := bi_T X d 6 (52, [(0, .ref 62), (1, .int y1), (2, .int y2), (3, .int y3), (4, .int y4), (5, .int y5), (6, .int y6)], [], st_mm s) (st_RI K E)
theorem go_X1_turning_52 {X : bi_X} {d : Nat} {K : Int32 → bi_St → Prop} {E : Nat → bi_St → Prop}  {s : bi_St} {y1 : Int32} {y2 : Int32} {y3 : Int32} {y4 : Int32} {y5 : Int32} {y6 : Int32}  (h : st_isB (st_gp s 7) ∧ ((((st_g s (st_gp s 7) 2) ≤ y6) → K y5 s) ∧ (¬ ((st_g s (st_gp s 7) 2) ≤ y6) → cI X d 30 [.ref 57, .int (y2 &&& (y1 ^^^ ((1 : Int32) <<< (y6 &&& 31)))), .int y3] s (fun (r4 : Int32) (s4 : bi_St) => ((r4 = y4) → at_X1_turning_52 X (d + 1) K E s4 (y1) (y2) (y3) (y4) ((y5 ||| (0 : Int32))) ((y6 + (1 : Int32)))) ∧ (¬ (r4 = y4) → at_X1_turning_52 X (d + 1) K E s4 (y1) (y2) (y3) (y4) ((y5 ||| ((1 : Int32) <<< (y6 &&& 31)))) ((y6 + (1 : Int32))))) (fun _ _ => False)))) : at_X1_turning_52 X (d + 1) K E s y1 y2 y3 y4 y5 y6 := by
  show bi_T _ _ _ _ _
  obtain ⟨h0q0_58, h⟩ := h
  refine bi_Tr 4 (s' := (61, [(0, .ref 62), (1, .int y1), (2, .int y2), (3, .int y3), (4, .int y4), (5, .int y5), (6, .int y6)], [.ref (st_gp s 7), .int y6], st_mm s)) rfl ?_
  refine bi_Tgi (o := 0) rfl rfl rfl (st_kB0 h0q0_58) ?_
  refine bi_Tr 1 (s' := ((if (st_g s (st_gp s 7) 2) ≤ y6 then 111 else 67), [(0, .ref 62), (1, .int y1), (2, .int y2), (3, .int y3), (4, .int y4), (5, .int y5), (6, .int y6)], [], st_mm s)) rfl (bi_Tif (fun hc => ?_) (fun hc => ?_))
  · have h := h.1 hc
    refine bi_Tr 1 (s' := (113, [(0, .ref 62), (1, .int y1), (2, .int y2), (3, .int y3), (4, .int y4), (5, .int y5), (6, .int y6)], [.int y5], st_mm s)) rfl ?_
    exact bi_Tv rfl rfl (Or.inl ⟨_, _, rfl, h⟩)
  · have h := h.2 hc
    refine bi_Tr 13 (s' := (86, [(7, .int (y1 ^^^ ((1 : Int32) <<< (y6 &&& 31)))), (0, .ref 62), (1, .int y1), (2, .int y2), (3, .int y3), (4, .int y4), (5, .int y5), (6, .int y6)], [.int y3, .int (y2 &&& (y1 ^^^ ((1 : Int32) <<< (y6 &&& 31)))), .ref 57, .int y5], st_mm s)) rfl ?_
    refine bi_TcI (as := [.ref 57, .int (y2 &&& (y1 ^^^ ((1 : Int32) <<< (y6 &&& 31)))), .int y3]) rfl rfl ?_
    refine cI.mono h (fun r4 s4 h => ?_) (fun _ _ h => h.elim)
    refine bi_Tr 2 (s' := ((if r4 = y4 then 101 else 94), [(7, .int (y1 ^^^ ((1 : Int32) <<< (y6 &&& 31)))), (0, .ref 62), (1, .int y1), (2, .int y2), (3, .int y3), (4, .int y4), (5, .int y5), (6, .int y6)], [.int y5], st_mm s4)) rfl (bi_Tif (fun hc => ?_) (fun hc => ?_))
    · have h := h.1 hc
      refine bi_Tr 5 (s' := (52, [(6, .int (y6 + (1 : Int32))), (5, .int (y5 ||| (0 : Int32))), (7, .int (y1 ^^^ ((1 : Int32) <<< (y6 &&& 31)))), (0, .ref 62), (1, .int y1), (2, .int y2), (3, .int y3), (4, .int y4)], [], st_mm s4)) rfl ?_
      exact bi_Tww h rfl rfl ⟨rfl, rfl, rfl, rfl, rfl, rfl, rfl, trivial⟩
    · have h := h.2 hc
      refine bi_Tr 8 (s' := (52, [(6, .int (y6 + (1 : Int32))), (5, .int (y5 ||| ((1 : Int32) <<< (y6 &&& 31)))), (7, .int (y1 ^^^ ((1 : Int32) <<< (y6 &&& 31)))), (0, .ref 62), (1, .int y1), (2, .int y2), (3, .int y3), (4, .int y4)], [], st_mm s4)) rfl ?_
      exact bi_Tww h rfl rfl ⟨rfl, rfl, rfl, rfl, rfl, rfl, rfl, trivial⟩
/-- PolicyRows$Insight.turning()I -/
theorem en_X1_turning {X : bi_X} {d : Nat} {K : Int32 → bi_St → Prop} {E : Nat → bi_St → Prop} {s : bi_St}   (h : st_isS (st_gp s 8) ∧ (cI X d 28 [.ref 57, .int (255 : Int32), .int (0 : Int32)] s (fun (r1 : Int32) (s1 : bi_St) => cI X d 29 [.ref 57, .int r1, .int (0 : Int32)] s1 (fun (r2 : Int32) (s2 : bi_St) => cI X d 30 [.ref 57, .int (r1 &&& (st_g s (st_gp s 8) 3)), .int r2] s2 (fun (r3 : Int32) (s3 : bi_St) => at_X1_turning_52 X (d + 1) K E s3 ((st_g s (st_gp s 8) 3)) (r1) (r2) (r3) ((0 : Int32)) ((0 : Int32))) (fun _ _ => False)) (fun _ _ => False)) (fun _ _ => False))) : cI X (d + 1) 6 [.ref 62] s K E := by
  show bi_T _ _ _ _ _
  obtain ⟨h0q0_4, h⟩ := h
  refine bi_Tr 3 (s' := (7, [(0, .ref 62)], [.ref (st_gp s 8)], st_mm s)) rfl ?_
  refine bi_Tgi (o := 0) rfl rfl rfl (st_kS0 h0q0_4) ?_
  refine bi_Tr 5 (s' := (19, [(1, .int (st_g s (st_gp s 8) 3)), (0, .ref 62)], [.int (0 : Int32), .int (255 : Int32), .ref 57], st_mm s)) rfl ?_
  refine bi_TcI (as := [.ref 57, .int (255 : Int32), .int (0 : Int32)]) rfl rfl ?_
  refine cI.mono h (fun r1 s1 h => ?_) (fun _ _ h => h.elim)
  refine bi_Tr 5 (s' := (29, [(2, .int r1), (1, .int (st_g s (st_gp s 8) 3)), (0, .ref 62)], [.int (0 : Int32), .int r1, .ref 57], st_mm s1)) rfl ?_
  refine bi_TcI (as := [.ref 57, .int r1, .int (0 : Int32)]) rfl rfl ?_
  refine cI.mono h (fun r2 s2 h => ?_) (fun _ _ h => h.elim)
  refine bi_Tr 7 (s' := (41, [(3, .int r2), (2, .int r1), (1, .int (st_g s (st_gp s 8) 3)), (0, .ref 62)], [.int r2, .int (r1 &&& (st_g s (st_gp s 8) 3)), .ref 57], st_mm s2)) rfl ?_
  refine bi_TcI (as := [.ref 57, .int (r1 &&& (st_g s (st_gp s 8) 3)), .int r2]) rfl rfl ?_
  refine cI.mono h (fun r3 s3 h => ?_) (fun _ _ h => h.elim)
  refine bi_Tr 5 (s' := (52, [(6, .int (0 : Int32)), (5, .int (0 : Int32)), (4, .int r3), (3, .int r2), (2, .int r1), (1, .int (st_g s (st_gp s 8) 3)), (0, .ref 62)], [], st_mm s3)) rfl ?_
  exact bi_Tww h rfl rfl ⟨rfl, rfl, rfl, rfl, rfl, rfl, rfl, trivial⟩
def at_X1_rolesLacking_10 (X : bi_X) (d : Nat) (K : Int32 → bi_St → Prop) (E : Nat → bi_St → Prop) (s : bi_St) (y1 : Int32) (y3 : Int32) : Prop := bi_T X d 7 (10, [(0, .ref 62), (1, .int y1), (3, .int y3)], [], st_mm s) (st_RI K E)
def at_X1_rolesLacking_27 (X : bi_X) (d : Nat) (K : Int32 → bi_St → Prop) (E : Nat → bi_St → Prop) (s : bi_St) (y1 : Int32) (y3 : Int32) (y4 : Int32) : Prop := bi_T X d 7 (27, [(0, .ref 62), (1, .int y1), (3, .int y3), (4, .int y4)], [], st_mm s) (st_RI K E)
theorem go_X1_rolesLacking_10 {X : bi_X} {d : Nat} {K : Int32 → bi_St → Prop} {E : Nat → bi_St → Prop}  {s : bi_St} {y1 : Int32} {y3 : Int32}  (h : st_isB (st_gp s 7) ∧ ((((st_g s (st_gp s 7) 1) < y3) → K (-1 : Int32) s) ∧ (¬ ((st_g s (st_gp s 7) 1) < y3) → at_X1_rolesLacking_27 X (d + 1) K E s (y1) (y3) ((0 : Int32))))) : at_X1_rolesLacking_10 X (d + 1) K E s y1 y3 := by
  show bi_T _ _ _ _ _
  obtain ⟨h0q0_15, h⟩ := h
  refine bi_Tr 4 (s' := (18, [(0, .ref 62), (1, .int y1), (3, .int y3)], [.ref (st_gp s 7), .int y3], st_mm s)) rfl ?_
  refine bi_Tgi (o := 0) rfl rfl rfl (st_kB0 h0q0_15) ?_
  refine bi_Tr 1 (s' := ((if (st_g s (st_gp s 7) 1) < y3 then 78 else 24), [(0, .ref 62), (1, .int y1), (3, .int y3)], [], st_mm s)) rfl (bi_Tif (fun hc => ?_) (fun hc => ?_))
  · have h := h.1 hc
    refine bi_Tr 1 (s' := (79, [(0, .ref 62), (1, .int y1), (3, .int y3)], [.int (-1 : Int32)], st_mm s)) rfl ?_
    exact bi_Tv rfl rfl (Or.inl ⟨_, _, rfl, h⟩)
  · have h := h.2 hc
    refine bi_Tr 2 (s' := (27, [(4, .int (0 : Int32)), (0, .ref 62), (1, .int y1), (3, .int y3)], [], st_mm s)) rfl ?_
    exact bi_Tww h rfl rfl ⟨rfl, rfl, rfl, rfl, trivial⟩
theorem go_X1_rolesLacking_27 {X : bi_X} {d : Nat} {K : Int32 → bi_St → Prop} {E : Nat → bi_St → Prop}  {s : bi_St} {y1 : Int32} {y3 : Int32} {y4 : Int32}  (h : st_isB (st_gp s 7) ∧ (((((1 : Int32) <<< ((st_g s (st_gp s 7) 1) &&& 31)) ≤ y4) → at_X1_rolesLacking_10 X (d + 1) K E s (y1) ((y3 + (1 : Int32)))) ∧ (¬ (((1 : Int32) <<< ((st_g s (st_gp s 7) 1) &&& 31)) ≤ y4) → cI X d 268 [.int y4] s (fun (r2 : Int32) (s2 : bi_St) => ((¬ r2 = y3) → at_X1_rolesLacking_27 X (d + 1) K E s2 (y1) (y3) ((y4 + (1 : Int32)))) ∧ (¬ (¬ r2 = y3) → cI X d 8 [.ref 62, .int y1, .int y4] s2 (fun (r3 : Int32) (s3 : bi_St) => ((r3 = 0) → at_X1_rolesLacking_27 X (d + 1) K E s3 (y1) (y3) ((y4 + (1 : Int32)))) ∧ (¬ (r3 = 0) → K y4 s3)) (fun _ _ => False))) (fun _ _ => False)))) : at_X1_rolesLacking_27 X (d + 1) K E s y1 y3 y4 := by
  show bi_T _ _ _ _ _
  obtain ⟨h0q0_34, h⟩ := h
  refine bi_Tr 5 (s' := (37, [(0, .ref 62), (1, .int y1), (3, .int y3), (4, .int y4)], [.ref (st_gp s 7), .int (1 : Int32), .int y4], st_mm s)) rfl ?_
  refine bi_Tgi (o := 0) rfl rfl rfl (st_kB0 h0q0_34) ?_
  refine bi_Tr 2 (s' := ((if ((1 : Int32) <<< ((st_g s (st_gp s 7) 1) &&& 31)) ≤ y4 then 72 else 44), [(0, .ref 62), (1, .int y1), (3, .int y3), (4, .int y4)], [], st_mm s)) rfl (bi_Tif (fun hc => ?_) (fun hc => ?_))
  · have h := h.1 hc
    refine bi_Tr 2 (s' := (10, [(3, .int (y3 + (1 : Int32))), (0, .ref 62), (1, .int y1), (4, .int y4)], [], st_mm s)) rfl ?_
    exact bi_Tww h rfl rfl ⟨rfl, rfl, rfl, trivial⟩
  · have h := h.2 hc
    refine bi_Tr 1 (s' := (46, [(0, .ref 62), (1, .int y1), (3, .int y3), (4, .int y4)], [.int y4], st_mm s)) rfl ?_
    refine bi_TcI (as := [.int y4]) rfl rfl ?_
    refine cI.mono h (fun r2 s2 h => ?_) (fun _ _ h => h.elim)
    refine bi_Tr 2 (s' := ((if ¬ r2 = y3 then 66 else 53), [(0, .ref 62), (1, .int y1), (3, .int y3), (4, .int y4)], [], st_mm s2)) rfl (bi_Tif (fun hc => ?_) (fun hc => ?_))
    · have h := h.1 hc
      refine bi_Tr 2 (s' := (27, [(4, .int (y4 + (1 : Int32))), (0, .ref 62), (1, .int y1), (3, .int y3)], [], st_mm s2)) rfl ?_
      exact bi_Tww h rfl rfl ⟨rfl, rfl, rfl, rfl, trivial⟩
    · have h := h.2 hc
      refine bi_Tr 3 (s' := (57, [(0, .ref 62), (1, .int y1), (3, .int y3), (4, .int y4)], [.int y4, .int y1, .ref 62], st_mm s2)) rfl ?_
      refine bi_TcI (as := [.ref 62, .int y1, .int y4]) rfl rfl ?_
      refine cI.mono h (fun r3 s3 h => ?_) (fun _ _ h => h.elim)
      refine bi_Tr 1 (s' := ((if r3 = 0 then 66 else 63), [(0, .ref 62), (1, .int y1), (3, .int y3), (4, .int y4)], [], st_mm s3)) rfl (bi_Tif (fun hc => ?_) (fun hc => ?_))
      · have h := h.1 hc
        refine bi_Tr 2 (s' := (27, [(4, .int (y4 + (1 : Int32))), (0, .ref 62), (1, .int y1), (3, .int y3)], [], st_mm s3)) rfl ?_
        exact bi_Tww h rfl rfl ⟨rfl, rfl, rfl, rfl, trivial⟩
      · have h := h.2 hc
        refine bi_Tr 1 (s' := (65, [(0, .ref 62), (1, .int y1), (3, .int y3), (4, .int y4)], [.int y4], st_mm s3)) rfl ?_
        exact bi_Tv rfl rfl (Or.inl ⟨_, _, rfl, h⟩)
/-- PolicyRows$Insight.rolesLacking(II)I -/
theorem en_X1_rolesLacking {X : bi_X} {d : Nat} {K : Int32 → bi_St → Prop} {E : Nat → bi_St → Prop} {s : bi_St} {x0 : Int32} {x1 : Int32}  (h : cV X d 27 [.ref 57, .int x1] s (fun (s1 : bi_St) => at_X1_rolesLacking_10 X (d + 1) K E s1 (x0) ((0 : Int32))) (fun _ _ => False)) : cI X (d + 1) 7 [.ref 62, .int x0, .int x1] s K E := by
  show bi_T _ _ _ _ _
  refine bi_Tr 3 (s' := (5, [(0, .ref 62), (1, .int x0), (2, .int x1)], [.int x1, .ref 57], st_mm s)) rfl ?_
  refine bi_TcV (as := [.ref 57, .int x1]) rfl rfl ?_
  refine cV.mono h (fun s1 h => ?_) (fun _ _ h => h.elim)
  refine bi_Tr 2 (s' := (10, [(3, .int (0 : Int32)), (0, .ref 62), (1, .int x0), (2, .int x1)], [], st_mm s1)) rfl ?_
  exact bi_Tww h rfl rfl ⟨rfl, rfl, rfl, trivial⟩
/-- PolicyRows$Insight.readsWith(II)Z -/
theorem en_X1_readsWith {X : bi_X} {d : Nat} {K : Int32 → bi_St → Prop} {E : Nat → bi_St → Prop} {s : bi_St} {x0 : Int32} {x1 : Int32}  (h : cI X d 25 [.ref 57, .int (((1 : Int32) <<< (x0 &&& 31)) ||| x1)] (st_p s 57 5 x0) (fun (r1 : Int32) (s1 : bi_St) => cI X d 31 [.ref 57, .int (0 : Int32), .int (0 : Int32)] (st_p s1 57 6 r1) (fun (r2 : Int32) (s2 : bi_St) => bi_bool r2 = true ∧ (K r2 s2)) (fun _ _ => False)) (fun _ _ => False)) : cI X (d + 1) 8 [.ref 62, .int x0, .int x1] s K E := by
  show bi_T _ _ _ _ _
  refine bi_Tr 13 (s' := (21, [(0, .ref 62), (1, .int x0), (2, .int x1)], [.int (((1 : Int32) <<< (x0 &&& 31)) ||| x1), .ref 57, .ref 57], st_mm (st_p s 57 5 x0))) rfl ?_
  refine bi_TcI (as := [.ref 57, .int (((1 : Int32) <<< (x0 &&& 31)) ||| x1)]) rfl rfl ?_
  refine cI.mono h (fun r1 s1 h => ?_) (fun _ _ h => h.elim)
  refine bi_Tr 5 (s' := (33, [(0, .ref 62), (1, .int x0), (2, .int x1)], [.int (0 : Int32), .int (0 : Int32), .ref 57], st_mm (st_p s1 57 6 r1))) rfl ?_
  refine bi_TcI (as := [.ref 57, .int (0 : Int32), .int (0 : Int32)]) rfl rfl ?_
  refine cI.mono h (fun r2 s2 h => ?_) (fun _ _ h => h.elim)
  obtain ⟨hi, h⟩ := h
  exact bi_Tv rfl hi (Or.inl ⟨_, _, rfl, h⟩)
def at_X1_chanceToRead_58 (X : bi_X) (d : Nat) (K : Int32 → bi_St → Prop) (E : Nat → bi_St → Prop) (s : bi_St) (y3 : Int32) (y4 : Int32) (y5 : Int32) (y6 : Int32) (y7 : Int32) (y8 : Int32) : Prop := bi_T X d 9 (58, [(0, .ref 62), (3, .int y3), (4, .int y4), (5, .int y5), (6, .int y6), (7, .int y7), (8, .int y8)], [], st_mm s) (st_RI K E)
theorem go_X1_chanceToRead_58 {X : bi_X} {d : Nat} {K : Int32 → bi_St → Prop} {E : Nat → bi_St → Prop}  {s : bi_St} {y3 : Int32} {y4 : Int32} {y5 : Int32} {y6 : Int32} {y7 : Int32} {y8 : Int32}  (h : (((256 : Int32) ≤ y8) → K y7 s) ∧ (¬ ((256 : Int32) ≤ y8) → ((¬ (y8 &&& (y4 ^^^ (-1 : Int32))) = 0) → at_X1_chanceToRead_58 X (d + 1) K E s (y3) (y4) (y5) (y6) (y7) ((y8 + (1 : Int32)))) ∧ (¬ (¬ (y8 &&& (y4 ^^^ (-1 : Int32))) = 0) → cI X d 30 [.ref 57, .int (y5 &&& y8), .int y6] s (fun (r5 : Int32) (s5 : bi_St) => ((r5 = 0) → at_X1_chanceToRead_58 X (d + 1) K E s5 (y3) (y4) (y5) (y6) (y7) ((y8 + (1 : Int32)))) ∧ (¬ (r5 = 0) → cI X d 10 [.int y8, .int y4, .int y3] s5 (fun (r6 : Int32) (s6 : bi_St) => at_X1_chanceToRead_58 X (d + 1) K E s6 (y3) (y4) (y5) (y6) ((y7 + r6)) ((y8 + (1 : Int32)))) (fun _ _ => False))) (fun _ _ => False)))) : at_X1_chanceToRead_58 X (d + 1) K E s y3 y4 y5 y6 y7 y8 := by
  show bi_T _ _ _ _ _
  refine bi_Tr 3 (s' := ((if (256 : Int32) ≤ y8 then 112 else 66), [(0, .ref 62), (3, .int y3), (4, .int y4), (5, .int y5), (6, .int y6), (7, .int y7), (8, .int y8)], [], st_mm s)) rfl (bi_Tif (fun hc => ?_) (fun hc => ?_))
  · have h := h.1 hc
    refine bi_Tr 1 (s' := (114, [(0, .ref 62), (3, .int y3), (4, .int y4), (5, .int y5), (6, .int y6), (7, .int y7), (8, .int y8)], [.int y7], st_mm s)) rfl ?_
    exact bi_Tv rfl rfl (Or.inl ⟨_, _, rfl, h⟩)
  · have h := h.2 hc
    refine bi_Tr 6 (s' := ((if ¬ (y8 &&& (y4 ^^^ (-1 : Int32))) = 0 then 106 else 76), [(0, .ref 62), (3, .int y3), (4, .int y4), (5, .int y5), (6, .int y6), (7, .int y7), (8, .int y8)], [], st_mm s)) rfl (bi_Tif (fun hc => ?_) (fun hc => ?_))
    · have h := h.1 hc
      refine bi_Tr 2 (s' := (58, [(8, .int (y8 + (1 : Int32))), (0, .ref 62), (3, .int y3), (4, .int y4), (5, .int y5), (6, .int y6), (7, .int y7)], [], st_mm s)) rfl ?_
      exact bi_Tww h rfl rfl ⟨rfl, rfl, rfl, rfl, rfl, rfl, rfl, trivial⟩
    · have h := h.2 hc
      refine bi_Tr 6 (s' := (87, [(0, .ref 62), (3, .int y3), (4, .int y4), (5, .int y5), (6, .int y6), (7, .int y7), (8, .int y8)], [.int y6, .int (y5 &&& y8), .ref 57], st_mm s)) rfl ?_
      refine bi_TcI (as := [.ref 57, .int (y5 &&& y8), .int y6]) rfl rfl ?_
      refine cI.mono h (fun r5 s5 h => ?_) (fun _ _ h => h.elim)
      refine bi_Tr 1 (s' := ((if r5 = 0 then 106 else 93), [(0, .ref 62), (3, .int y3), (4, .int y4), (5, .int y5), (6, .int y6), (7, .int y7), (8, .int y8)], [], st_mm s5)) rfl (bi_Tif (fun hc => ?_) (fun hc => ?_))
      · have h := h.1 hc
        refine bi_Tr 2 (s' := (58, [(8, .int (y8 + (1 : Int32))), (0, .ref 62), (3, .int y3), (4, .int y4), (5, .int y5), (6, .int y6), (7, .int y7)], [], st_mm s5)) rfl ?_
        exact bi_Tww h rfl rfl ⟨rfl, rfl, rfl, rfl, rfl, rfl, rfl, trivial⟩
      · have h := h.2 hc
        refine bi_Tr 4 (s' := (100, [(0, .ref 62), (3, .int y3), (4, .int y4), (5, .int y5), (6, .int y6), (7, .int y7), (8, .int y8)], [.int y3, .int y4, .int y8, .int y7], st_mm s5)) rfl ?_
        refine bi_TcI (as := [.int y8, .int y4, .int y3]) rfl rfl ?_
        refine cI.mono h (fun r6 s6 h => ?_) (fun _ _ h => h.elim)
        refine bi_Tr 4 (s' := (58, [(8, .int (y8 + (1 : Int32))), (7, .int (y7 + r6)), (0, .ref 62), (3, .int y3), (4, .int y4), (5, .int y5), (6, .int y6)], [], st_mm s6)) rfl ?_
        exact bi_Tww h rfl rfl ⟨rfl, rfl, rfl, rfl, rfl, rfl, rfl, trivial⟩
/-- PolicyRows$Insight.chanceToRead(III)I -/
theorem en_X1_chanceToRead {X : bi_X} {d : Nat} {K : Int32 → bi_St → Prop} {E : Nat → bi_St → Prop} {s : bi_St} {x0 : Int32} {x1 : Int32} {x2 : Int32}  (h : cV X d 26 [.ref 57, .int x0] s (fun (s1 : bi_St) => cV X d 27 [.ref 57, .int x1] s1 (fun (s2 : bi_St) => st_isS (st_gp s2 8) ∧ (cI X d 28 [.ref 57, .int (st_g s2 (st_gp s2 8) 3), .int (0 : Int32)] s2 (fun (r3 : Int32) (s3 : bi_St) => cI X d 29 [.ref 57, .int r3, .int (0 : Int32)] s3 (fun (r4 : Int32) (s4 : bi_St) => at_X1_chanceToRead_58 X (d + 1) K E s4 (x2) ((st_g s2 (st_gp s2 8) 3)) (r3) (r4) ((0 : Int32)) ((0 : Int32))) (fun _ _ => False)) (fun _ _ => False))) (fun _ _ => False)) (fun _ _ => False)) : cI X (d + 1) 9 [.ref 62, .int x0, .int x1, .int x2] s K E := by
  show bi_T _ _ _ _ _
  refine bi_Tr 3 (s' := (5, [(0, .ref 62), (1, .int x0), (2, .int x1), (3, .int x2)], [.int x0, .ref 57], st_mm s)) rfl ?_
  refine bi_TcV (as := [.ref 57, .int x0]) rfl rfl ?_
  refine cV.mono h (fun s1 h => ?_) (fun _ _ h => h.elim)
  refine bi_Tr 3 (s' := (13, [(0, .ref 62), (1, .int x0), (2, .int x1), (3, .int x2)], [.int x1, .ref 57], st_mm s1)) rfl ?_
  refine bi_TcV (as := [.ref 57, .int x1]) rfl rfl ?_
  refine cV.mono h (fun s2 h => ?_) (fun _ _ h => h.elim)
  obtain ⟨h0q0_20, h⟩ := h
  refine bi_Tr 3 (s' := (23, [(0, .ref 62), (1, .int x0), (2, .int x1), (3, .int x2)], [.ref (st_gp s2 8)], st_mm s2)) rfl ?_
  refine bi_Tgi (o := 0) rfl rfl rfl (st_kS0 h0q0_20) ?_
  refine bi_Tr 5 (s' := (35, [(4, .int (st_g s2 (st_gp s2 8) 3)), (0, .ref 62), (1, .int x0), (2, .int x1), (3, .int x2)], [.int (0 : Int32), .int (st_g s2 (st_gp s2 8) 3), .ref 57], st_mm s2)) rfl ?_
  refine bi_TcI (as := [.ref 57, .int (st_g s2 (st_gp s2 8) 3), .int (0 : Int32)]) rfl rfl ?_
  refine cI.mono h (fun r3 s3 h => ?_) (fun _ _ h => h.elim)
  refine bi_Tr 5 (s' := (47, [(5, .int r3), (4, .int (st_g s2 (st_gp s2 8) 3)), (0, .ref 62), (1, .int x0), (2, .int x1), (3, .int x2)], [.int (0 : Int32), .int r3, .ref 57], st_mm s3)) rfl ?_
  refine bi_TcI (as := [.ref 57, .int r3, .int (0 : Int32)]) rfl rfl ?_
  refine cI.mono h (fun r4 s4 h => ?_) (fun _ _ h => h.elim)
  refine bi_Tr 5 (s' := (58, [(8, .int (0 : Int32)), (7, .int (0 : Int32)), (6, .int r4), (5, .int r3), (4, .int (st_g s2 (st_gp s2 8) 3)), (0, .ref 62), (1, .int x0), (2, .int x1), (3, .int x2)], [], st_mm s4)) rfl ?_
  exact bi_Tww h rfl rfl ⟨rfl, rfl, rfl, rfl, rfl, rfl, rfl, trivial⟩
def at_X1_chanceOf_5 (X : bi_X) (d : Nat) (K : Int32 → bi_St → Prop) (E : Nat → bi_St → Prop) (s : bi_St) (y0 : Int32) (y1 : Int32) (y2 : Int32) (y3 : Int32) (y4 : Int32) : Prop := bi_T X d 10 (5, [(0, .int y0), (1, .int y1), (2, .int y2), (3, .int y3), (4, .int y4)], [], st_mm s) (st_RI K E)
theorem go_X1_chanceOf_5 {X : bi_X} {d : Nat} {K : Int32 → bi_St → Prop} {E : Nat → bi_St → Prop}  {s : bi_St} {y0 : Int32} {y1 : Int32} {y2 : Int32} {y3 : Int32} {y4 : Int32}  (h : (((8 : Int32) ≤ y4) → K y3 s) ∧ (¬ ((8 : Int32) ≤ y4) → cI X d 160 [.int y1, .int y4] s (fun (r1 : Int32) (s1 : bi_St) => ((¬ r1 = (1 : Int32)) → at_X1_chanceOf_5 X (d + 1) K E s1 (y0) (y1) (y2) (y3) ((y4 + (1 : Int32)))) ∧ (¬ (¬ r1 = (1 : Int32)) → cI X d 160 [.int y0, .int y4] s1 (fun (r2 : Int32) (s2 : bi_St) => ((¬ r2 = (1 : Int32)) → at_X1_chanceOf_5 X (d + 1) K E s2 (y0) (y1) (y2) ((y3 * y2)) ((y4 + (1 : Int32)))) ∧ (¬ (¬ r2 = (1 : Int32)) → at_X1_chanceOf_5 X (d + 1) K E s2 (y0) (y1) (y2) ((y3 * ((10 : Int32) - y2))) ((y4 + (1 : Int32))))) (fun _ _ => False))) (fun _ _ => False))) : at_X1_chanceOf_5 X (d + 1) K E s y0 y1 y2 y3 y4 := by
  show bi_T _ _ _ _ _
  refine bi_Tr 3 (s' := ((if (8 : Int32) ≤ y4 then 49 else 12), [(0, .int y0), (1, .int y1), (2, .int y2), (3, .int y3), (4, .int y4)], [], st_mm s)) rfl (bi_Tif (fun hc => ?_) (fun hc => ?_))
  · have h := h.1 hc
    refine bi_Tr 1 (s' := (50, [(0, .int y0), (1, .int y1), (2, .int y2), (3, .int y3), (4, .int y4)], [.int y3], st_mm s)) rfl ?_
    exact bi_Tv rfl rfl (Or.inl ⟨_, _, rfl, h⟩)
  · have h := h.2 hc
    refine bi_Tr 2 (s' := (15, [(0, .int y0), (1, .int y1), (2, .int y2), (3, .int y3), (4, .int y4)], [.int y4, .int y1], st_mm s)) rfl ?_
    refine bi_TcI (as := [.int y1, .int y4]) rfl rfl ?_
    refine cI.mono h (fun r1 s1 h => ?_) (fun _ _ h => h.elim)
    refine bi_Tr 2 (s' := ((if ¬ r1 = (1 : Int32) then 43 else 22), [(0, .int y0), (1, .int y1), (2, .int y2), (3, .int y3), (4, .int y4)], [], st_mm s1)) rfl (bi_Tif (fun hc => ?_) (fun hc => ?_))
    · have h := h.1 hc
      refine bi_Tr 2 (s' := (5, [(4, .int (y4 + (1 : Int32))), (0, .int y0), (1, .int y1), (2, .int y2), (3, .int y3)], [], st_mm s1)) rfl ?_
      exact bi_Tww h rfl rfl ⟨rfl, rfl, rfl, rfl, rfl, trivial⟩
    · have h := h.2 hc
      refine bi_Tr 3 (s' := (26, [(0, .int y0), (1, .int y1), (2, .int y2), (3, .int y3), (4, .int y4)], [.int y4, .int y0, .int y3], st_mm s1)) rfl ?_
      refine bi_TcI (as := [.int y0, .int y4]) rfl rfl ?_
      refine cI.mono h (fun r2 s2 h => ?_) (fun _ _ h => h.elim)
      refine bi_Tr 2 (s' := ((if ¬ r2 = (1 : Int32) then 40 else 33), [(0, .int y0), (1, .int y1), (2, .int y2), (3, .int y3), (4, .int y4)], [.int y3], st_mm s2)) rfl (bi_Tif (fun hc => ?_) (fun hc => ?_))
      · have h := h.1 hc
        refine bi_Tr 5 (s' := (5, [(4, .int (y4 + (1 : Int32))), (3, .int (y3 * y2)), (0, .int y0), (1, .int y1), (2, .int y2)], [], st_mm s2)) rfl ?_
        exact bi_Tww h rfl rfl ⟨rfl, rfl, rfl, rfl, rfl, trivial⟩
      · have h := h.2 hc
        refine bi_Tr 8 (s' := (5, [(4, .int (y4 + (1 : Int32))), (3, .int (y3 * ((10 : Int32) - y2))), (0, .int y0), (1, .int y1), (2, .int y2)], [], st_mm s2)) rfl ?_
        exact bi_Tww h rfl rfl ⟨rfl, rfl, rfl, rfl, rfl, trivial⟩
/-- PolicyRows$Insight.chanceOf(III)I -/
theorem en_X1_chanceOf {X : bi_X} {d : Nat} {K : Int32 → bi_St → Prop} {E : Nat → bi_St → Prop} {s : bi_St} {x0 : Int32} {x1 : Int32} {x2 : Int32}  (h : at_X1_chanceOf_5 X (d + 1) K E s (x0) (x1) (x2) ((1 : Int32)) ((0 : Int32))) : cI X (d + 1) 10 [.int x0, .int x1, .int x2] s K E := by
  show bi_T _ _ _ _ _
  refine bi_Tr 4 (s' := (5, [(4, .int (0 : Int32)), (3, .int (1 : Int32)), (0, .int x0), (1, .int x1), (2, .int x2)], [], st_mm s)) rfl ?_
  exact bi_Tww h rfl rfl ⟨rfl, rfl, rfl, rfl, rfl, trivial⟩
def at_X1_readyToLook_7 (X : bi_X) (d : Nat) (K : bi_St → Prop) (E : Nat → bi_St → Prop) (s : bi_St) (y1 : Int32) : Prop := bi_T X d 11 (7, [(0, .ref 62), (1, .int y1)], [], st_mm s) (st_RV K E)
theorem go_X1_readyToLook_7 {X : bi_X} {d : Nat} {K : bi_St → Prop} {E : Nat → bi_St → Prop}  {s : bi_St} {y1 : Int32}  (h : st_isB (st_gp s 7) ∧ ((((st_g s (st_gp s 7) 1) ≤ y1) → K s) ∧ (¬ ((st_g s (st_gp s 7) 1) ≤ y1) → cI X d 32 [.ref 57, .int y1] s (fun (r1 : Int32) (s1 : bi_St) => bi_in y1 6 = true ∧ (bi_in y1 6 = true ∧ (at_X1_readyToLook_7 X (d + 1) K E (st_p (st_p s1 63 (y1).toNatClampNeg r1) 64 (y1).toNatClampNeg (0 : Int32)) ((y1 + (1 : Int32)))))) (fun _ _ => False)))) : at_X1_readyToLook_7 X (d + 1) K E s y1 := by
  show bi_T _ _ _ _ _
  obtain ⟨h0q0_12, h⟩ := h
  refine bi_Tr 4 (s' := (15, [(0, .ref 62), (1, .int y1)], [.ref (st_gp s 7), .int y1], st_mm s)) rfl ?_
  refine bi_Tgi (o := 0) rfl rfl rfl (st_kB0 h0q0_12) ?_
  refine bi_Tr 1 (s' := ((if (st_g s (st_gp s 7) 1) ≤ y1 then 48 else 21), [(0, .ref 62), (1, .int y1)], [], st_mm s)) rfl (bi_Tif (fun hc => ?_) (fun hc => ?_))
  · have h := h.1 hc
    exact bi_Tv rfl rfl (Or.inl ⟨_, rfl, h⟩)
  · have h := h.2 hc
    refine bi_Tr 6 (s' := (31, [(0, .ref 62), (1, .int y1)], [.int y1, .ref 57, .int y1, .ref 63], st_mm s)) rfl ?_
    refine bi_TcI (as := [.ref 57, .int y1]) rfl rfl ?_
    refine cI.mono h (fun r1 s1 h => ?_) (fun _ _ h => h.elim)
    obtain ⟨hi, h⟩ := h
    refine bi_Tias rfl rfl hi ?_
    refine bi_Tr 4 (s' := (41, [(0, .ref 62), (1, .int y1)], [.int (0 : Int32), .int y1, .ref 64], st_mm (st_p s1 63 (y1).toNatClampNeg r1))) rfl ?_
    obtain ⟨hi, h⟩ := h
    refine bi_Tias rfl rfl hi ?_
    refine bi_Tr 2 (s' := (7, [(1, .int (y1 + (1 : Int32))), (0, .ref 62)], [], st_mm (st_p (st_p s1 63 (y1).toNatClampNeg r1) 64 (y1).toNatClampNeg (0 : Int32)))) rfl ?_
    exact bi_Tww h rfl rfl ⟨rfl, rfl, trivial⟩
/-- PolicyRows$Insight.readyToLook()V -/
theorem en_X1_readyToLook {X : bi_X} {d : Nat} {K : bi_St → Prop} {E : Nat → bi_St → Prop} {s : bi_St}   (h : at_X1_readyToLook_7 X (d + 1) K E (st_p s 62 3 (0 : Int32)) ((0 : Int32))) : cV X (d + 1) 11 [.ref 62] s K E := by
  show bi_T _ _ _ _ _
  refine bi_Tr 5 (s' := (7, [(1, .int (0 : Int32)), (0, .ref 62)], [], st_mm (st_p s 62 3 (0 : Int32)))) rfl ?_
  exact bi_Tww h rfl rfl ⟨rfl, rfl, trivial⟩
/-- PolicyRows$Insight.setsOf(I)I -/
theorem en_X1_setsOf {X : bi_X} {d : Nat} {K : Int32 → bi_St → Prop} {E : Nat → bi_St → Prop} {s : bi_St} {x0 : Int32}  (h : bi_in x0 6 = true ∧ (cI X d 268 [.int (st_g s 64 (x0).toNatClampNeg)] s (fun (r1 : Int32) (s1 : bi_St) => cI X d 160 [.int (st_g s1 62 3), .int x0] s1 (fun (r2 : Int32) (s2 : bi_St) => K (r1 + r2) s2) (fun _ _ => False)) (fun _ _ => False))) : cI X (d + 1) 12 [.ref 62, .int x0] s K E := by
  show bi_T _ _ _ _ _
  refine bi_Tr 3 (s' := (5, [(0, .ref 62), (1, .int x0)], [.int x0, .ref 64], st_mm s)) rfl ?_
  obtain ⟨hi, h⟩ := h
  refine bi_Tial rfl rfl rfl hi ?_
  refine bi_TcI (as := [.int (st_g s 64 (x0).toNatClampNeg)]) rfl rfl ?_
  refine cI.mono h (fun r1 s1 h => ?_) (fun _ _ h => h.elim)
  refine bi_Tr 3 (s' := (14, [(0, .ref 62), (1, .int x0)], [.int x0, .int (st_g s1 62 3), .int r1], st_mm s1)) rfl ?_
  refine bi_TcI (as := [.int (st_g s1 62 3), .int x0]) rfl rfl ?_
  refine cI.mono h (fun r2 s2 h => ?_) (fun _ _ h => h.elim)
  refine bi_Tr 1 (s' := (18, [(0, .ref 62), (1, .int x0)], [.int (r1 + r2)], st_mm s2)) rfl ?_
  exact bi_Tv rfl rfl (Or.inl ⟨_, _, rfl, h⟩)
def at_X1_roleToLookBy_6 (X : bi_X) (d : Nat) (K : Int32 → bi_St → Prop) (E : Nat → bi_St → Prop) (s : bi_St) (y1 : Int32) (y2 : Int32) (y3 : Int32) : Prop := bi_T X d 13 (6, [(0, .ref 62), (1, .int y1), (2, .int y2), (3, .int y3)], [], st_mm s) (st_RI K E)
theorem go_X1_roleToLookBy_6 {X : bi_X} {d : Nat} {K : Int32 → bi_St → Prop} {E : Nat → bi_St → Prop}  {s : bi_St} {y1 : Int32} {y2 : Int32} {y3 : Int32}  (h : st_isB (st_gp s 7) ∧ ((((st_g s (st_gp s 7) 1) ≤ y3) → K y1 s) ∧ (¬ ((st_g s (st_gp s 7) 1) ≤ y3) → cI X d 12 [.ref 62, .int y3] s (fun (r1 : Int32) (s1 : bi_St) => ((r1 ≤ y2) → at_X1_roleToLookBy_6 X (d + 1) K E s1 (y1) (y2) ((y3 + (1 : Int32)))) ∧ (¬ (r1 ≤ y2) → cI X d 12 [.ref 62, .int y3] s1 (fun (r2 : Int32) (s2 : bi_St) => at_X1_roleToLookBy_6 X (d + 1) K E s2 (y3) (r2) ((y3 + (1 : Int32)))) (fun _ _ => False))) (fun _ _ => False)))) : at_X1_roleToLookBy_6 X (d + 1) K E s y1 y2 y3 := by
  show bi_T _ _ _ _ _
  obtain ⟨h0q0_11, h⟩ := h
  refine bi_Tr 4 (s' := (14, [(0, .ref 62), (1, .int y1), (2, .int y2), (3, .int y3)], [.ref (st_gp s 7), .int y3], st_mm s)) rfl ?_
  refine bi_Tgi (o := 0) rfl rfl rfl (st_kB0 h0q0_11) ?_
  refine bi_Tr 1 (s' := ((if (st_g s (st_gp s 7) 1) ≤ y3 then 43 else 20), [(0, .ref 62), (1, .int y1), (2, .int y2), (3, .int y3)], [], st_mm s)) rfl (bi_Tif (fun hc => ?_) (fun hc => ?_))
  · have h := h.1 hc
    refine bi_Tr 1 (s' := (44, [(0, .ref 62), (1, .int y1), (2, .int y2), (3, .int y3)], [.int y1], st_mm s)) rfl ?_
    exact bi_Tv rfl rfl (Or.inl ⟨_, _, rfl, h⟩)
  · have h := h.2 hc
    refine bi_Tr 2 (s' := (22, [(0, .ref 62), (1, .int y1), (2, .int y2), (3, .int y3)], [.int y3, .ref 62], st_mm s)) rfl ?_
    refine bi_TcI (as := [.ref 62, .int y3]) rfl rfl ?_
    refine cI.mono h (fun r1 s1 h => ?_) (fun _ _ h => h.elim)
    refine bi_Tr 2 (s' := ((if r1 ≤ y2 then 37 else 29), [(0, .ref 62), (1, .int y1), (2, .int y2), (3, .int y3)], [], st_mm s1)) rfl (bi_Tif (fun hc => ?_) (fun hc => ?_))
    · have h := h.1 hc
      refine bi_Tr 2 (s' := (6, [(3, .int (y3 + (1 : Int32))), (0, .ref 62), (1, .int y1), (2, .int y2)], [], st_mm s1)) rfl ?_
      exact bi_Tww h rfl rfl ⟨rfl, rfl, rfl, rfl, trivial⟩
    · have h := h.2 hc
      refine bi_Tr 4 (s' := (33, [(1, .int y3), (0, .ref 62), (2, .int y2), (3, .int y3)], [.int y3, .ref 62], st_mm s1)) rfl ?_
      refine bi_TcI (as := [.ref 62, .int y3]) rfl rfl ?_
      refine cI.mono h (fun r2 s2 h => ?_) (fun _ _ h => h.elim)
      refine bi_Tr 3 (s' := (6, [(3, .int (y3 + (1 : Int32))), (2, .int r2), (1, .int y3), (0, .ref 62)], [], st_mm s2)) rfl ?_
      exact bi_Tww h rfl rfl ⟨rfl, rfl, rfl, rfl, trivial⟩
/-- PolicyRows$Insight.roleToLookBy()I -/
theorem en_X1_roleToLookBy {X : bi_X} {d : Nat} {K : Int32 → bi_St → Prop} {E : Nat → bi_St → Prop} {s : bi_St}   (h : at_X1_roleToLookBy_6 X (d + 1) K E s ((-1 : Int32)) ((0 : Int32)) ((0 : Int32))) : cI X (d + 1) 13 [.ref 62] s K E := by
  show bi_T _ _ _ _ _
  refine bi_Tr 6 (s' := (6, [(3, .int (0 : Int32)), (2, .int (0 : Int32)), (1, .int (-1 : Int32)), (0, .ref 62)], [], st_mm s)) rfl ?_
  exact bi_Tww h rfl rfl ⟨rfl, rfl, rfl, rfl, trivial⟩
def at_X1_search_26 (X : bi_X) (d : Nat) (K : bi_St → Prop) (E : Nat → bi_St → Prop) (s : bi_St) (y1 : Int32) (y2 : Int32) (y3 : Int32) (y4 : Int32) : Prop := bi_T X d 14 (26, [(0, .ref 62), (1, .int y1), (2, .int y2), (3, .int y3), (4, .int y4)], [], st_mm s) (st_RV K E)
theorem go_X1_search_26 {X : bi_X} {d : Nat} {K : bi_St → Prop} {E : Nat → bi_St → Prop}  {s : bi_St} {y1 : Int32} {y2 : Int32} {y3 : Int32} {y4 : Int32}  (h : st_isS (st_gp s 8) ∧ ((((st_g s (st_gp s 8) 0) ≤ y4) → K s) ∧ (¬ ((st_g s (st_gp s 8) 0) ≤ y4) → cV X d 27 [.ref 57, .int y4] s (fun (s2 : bi_St) => ((¬ y1 = 0) → cI X d 17 [.ref 62, .int y4] s2 (fun (r3 : Int32) (s3 : bi_St) => ((¬ (y3 &&& (r3 ^^^ (-1 : Int32))) = 0) → at_X1_search_26 X (d + 1) K E s3 (y1) (y2) (y3) ((y4 + (1 : Int32)))) ∧ (¬ (¬ (y3 &&& (r3 ^^^ (-1 : Int32))) = 0) → cV X d 19 [.ref 62, .int y4, .int y1] s3 (fun (s4 : bi_St) => at_X1_search_26 X (d + 1) K E s4 (y1) (y2) (y3) ((y4 + (1 : Int32)))) (fun _ _ => False))) (fun _ _ => False)) ∧ (¬ (¬ y1 = 0) → cI X d 15 [.ref 62, .int y2] s2 (fun (r5 : Int32) (s5 : bi_St) => ((r5 = 0) → at_X1_search_26 X (d + 1) K E s5 (y1) (y2) (y3) ((y4 + (1 : Int32)))) ∧ (¬ (r5 = 0) → cV X d 19 [.ref 62, .int y4, .int y1] s5 (fun (s6 : bi_St) => at_X1_search_26 X (d + 1) K E s6 (y1) (y2) (y3) ((y4 + (1 : Int32)))) (fun _ _ => False))) (fun _ _ => False))) (fun _ _ => False)))) : at_X1_search_26 X (d + 1) K E s y1 y2 y3 y4 := by
  show bi_T _ _ _ _ _
  obtain ⟨h0q0_32, h⟩ := h
  refine bi_Tr 4 (s' := (35, [(0, .ref 62), (1, .int y1), (2, .int y2), (3, .int y3), (4, .int y4)], [.ref (st_gp s 8), .int y4], st_mm s)) rfl ?_
  refine bi_Tgi (o := 0) rfl rfl rfl (st_kS0 h0q0_32) ?_
  refine bi_Tr 1 (s' := ((if (st_g s (st_gp s 8) 0) ≤ y4 then 91 else 41), [(0, .ref 62), (1, .int y1), (2, .int y2), (3, .int y3), (4, .int y4)], [], st_mm s)) rfl (bi_Tif (fun hc => ?_) (fun hc => ?_))
  · have h := h.1 hc
    exact bi_Tv rfl rfl (Or.inl ⟨_, rfl, h⟩)
  · have h := h.2 hc
    refine bi_Tr 3 (s' := (47, [(0, .ref 62), (1, .int y1), (2, .int y2), (3, .int y3), (4, .int y4)], [.int y4, .ref 57], st_mm s)) rfl ?_
    refine bi_TcV (as := [.ref 57, .int y4]) rfl rfl ?_
    refine cV.mono h (fun s2 h => ?_) (fun _ _ h => h.elim)
    refine bi_Tr 2 (s' := ((if ¬ y1 = 0 then 65 else 54), [(0, .ref 62), (1, .int y1), (2, .int y2), (3, .int y3), (4, .int y4)], [], st_mm s2)) rfl (bi_Tif (fun hc => ?_) (fun hc => ?_))
    · have h := h.1 hc
      refine bi_Tr 3 (s' := (69, [(0, .ref 62), (1, .int y1), (2, .int y2), (3, .int y3), (4, .int y4)], [.int y4, .ref 62, .int y3], st_mm s2)) rfl ?_
      refine bi_TcI (as := [.ref 62, .int y4]) rfl rfl ?_
      refine cI.mono h (fun r3 s3 h => ?_) (fun _ _ h => h.elim)
      refine bi_Tr 4 (s' := ((if ¬ (y3 &&& (r3 ^^^ (-1 : Int32))) = 0 then 85 else 78), [(0, .ref 62), (1, .int y1), (2, .int y2), (3, .int y3), (4, .int y4)], [], st_mm s3)) rfl (bi_Tif (fun hc => ?_) (fun hc => ?_))
      · have h := h.1 hc
        refine bi_Tr 2 (s' := (26, [(4, .int (y4 + (1 : Int32))), (0, .ref 62), (1, .int y1), (2, .int y2), (3, .int y3)], [], st_mm s3)) rfl ?_
        exact bi_Tww h rfl rfl ⟨rfl, rfl, rfl, rfl, rfl, trivial⟩
      · have h := h.2 hc
        refine bi_Tr 3 (s' := (82, [(0, .ref 62), (1, .int y1), (2, .int y2), (3, .int y3), (4, .int y4)], [.int y1, .int y4, .ref 62], st_mm s3)) rfl ?_
        refine bi_TcV (as := [.ref 62, .int y4, .int y1]) rfl rfl ?_
        refine cV.mono h (fun s4 h => ?_) (fun _ _ h => h.elim)
        refine bi_Tr 2 (s' := (26, [(4, .int (y4 + (1 : Int32))), (0, .ref 62), (1, .int y1), (2, .int y2), (3, .int y3)], [], st_mm s4)) rfl ?_
        exact bi_Tww h rfl rfl ⟨rfl, rfl, rfl, rfl, rfl, trivial⟩
    · have h := h.2 hc
      refine bi_Tr 2 (s' := (56, [(0, .ref 62), (1, .int y1), (2, .int y2), (3, .int y3), (4, .int y4)], [.int y2, .ref 62], st_mm s2)) rfl ?_
      refine bi_TcI (as := [.ref 62, .int y2]) rfl rfl ?_
      refine cI.mono h (fun r5 s5 h => ?_) (fun _ _ h => h.elim)
      refine bi_Tr 1 (s' := ((if r5 = 0 then 85 else 62), [(0, .ref 62), (1, .int y1), (2, .int y2), (3, .int y3), (4, .int y4)], [], st_mm s5)) rfl (bi_Tif (fun hc => ?_) (fun hc => ?_))
      · have h := h.1 hc
        refine bi_Tr 2 (s' := (26, [(4, .int (y4 + (1 : Int32))), (0, .ref 62), (1, .int y1), (2, .int y2), (3, .int y3)], [], st_mm s5)) rfl ?_
        exact bi_Tww h rfl rfl ⟨rfl, rfl, rfl, rfl, rfl, trivial⟩
      · have h := h.2 hc
        refine bi_Tr 4 (s' := (82, [(0, .ref 62), (1, .int y1), (2, .int y2), (3, .int y3), (4, .int y4)], [.int y1, .int y4, .ref 62], st_mm s5)) rfl ?_
        refine bi_TcV (as := [.ref 62, .int y4, .int y1]) rfl rfl ?_
        refine cV.mono h (fun s6 h => ?_) (fun _ _ h => h.elim)
        refine bi_Tr 2 (s' := (26, [(4, .int (y4 + (1 : Int32))), (0, .ref 62), (1, .int y1), (2, .int y2), (3, .int y3)], [], st_mm s6)) rfl ?_
        exact bi_Tww h rfl rfl ⟨rfl, rfl, rfl, rfl, rfl, trivial⟩
/-- PolicyRows$Insight.search(II)V -/
theorem en_X1_search {X : bi_X} {d : Nat} {K : bi_St → Prop} {E : Nat → bi_St → Prop} {s : bi_St} {x0 : Int32} {x1 : Int32}  (h : ((¬ x0 = 0) → cI X d 16 [.ref 62] (st_p (st_p s 62 4 (0 : Int32)) 62 5 (-1 : Int32)) (fun (r1 : Int32) (s1 : bi_St) => at_X1_search_26 X (d + 1) K E s1 (x0) (x1) (r1) ((0 : Int32))) (fun _ _ => False)) ∧ (¬ (¬ x0 = 0) → at_X1_search_26 X (d + 1) K E (st_p (st_p s 62 4 (0 : Int32)) 62 5 (-1 : Int32)) (x0) (x1) ((0 : Int32)) ((0 : Int32)))) : cV X (d + 1) 14 [.ref 62, .int x0, .int x1] s K E := by
  show bi_T _ _ _ _ _
  refine bi_Tr 8 (s' := ((if ¬ x0 = 0 then 18 else 14), [(0, .ref 62), (1, .int x0), (2, .int x1)], [], st_mm (st_p (st_p s 62 4 (0 : Int32)) 62 5 (-1 : Int32)))) rfl (bi_Tif (fun hc => ?_) (fun hc => ?_))
  · have h := h.1 hc
    refine bi_Tr 1 (s' := (19, [(0, .ref 62), (1, .int x0), (2, .int x1)], [.ref 62], st_mm (st_p (st_p s 62 4 (0 : Int32)) 62 5 (-1 : Int32)))) rfl ?_
    refine bi_TcI (as := [.ref 62]) rfl rfl ?_
    refine cI.mono h (fun r1 s1 h => ?_) (fun _ _ h => h.elim)
    refine bi_Tr 3 (s' := (26, [(4, .int (0 : Int32)), (3, .int r1), (0, .ref 62), (1, .int x0), (2, .int x1)], [], st_mm s1)) rfl ?_
    exact bi_Tww h rfl rfl ⟨rfl, rfl, rfl, rfl, rfl, trivial⟩
  · have h := h.2 hc
    refine bi_Tr 5 (s' := (26, [(4, .int (0 : Int32)), (3, .int (0 : Int32)), (0, .ref 62), (1, .int x0), (2, .int x1)], [], st_mm (st_p (st_p s 62 4 (0 : Int32)) 62 5 (-1 : Int32)))) rfl ?_
    exact bi_Tww h rfl rfl ⟨rfl, rfl, rfl, rfl, rfl, trivial⟩
/-- PolicyRows$Insight.canChange(I)Z -/
theorem en_X1_canChange {X : bi_X} {d : Nat} {K : Int32 → bi_St → Prop} {E : Nat → bi_St → Prop} {s : bi_St} {x0 : Int32}  (h : cV X d 26 [.ref 57, .int x0] s (fun (s1 : bi_St) => cI X d 31 [.ref 57, .int (0 : Int32), .int (0 : Int32)] s1 (fun (r2 : Int32) (s2 : bi_St) => ((r2 = 0) → K (0 : Int32) s2) ∧ (¬ (r2 = 0) → cI X d 31 [.ref 57, .int (2 : Int32), .int (0 : Int32)] s2 (fun (r3 : Int32) (s3 : bi_St) => ((r3 = 0) → K (0 : Int32) s3) ∧ (¬ (r3 = 0) → K (1 : Int32) s3)) (fun _ _ => False))) (fun _ _ => False)) (fun _ _ => False)) : cI X (d + 1) 15 [.ref 62, .int x0] s K E := by
  show bi_T _ _ _ _ _
  refine bi_Tr 3 (s' := (5, [(0, .ref 62), (1, .int x0)], [.int x0, .ref 57], st_mm s)) rfl ?_
  refine bi_TcV (as := [.ref 57, .int x0]) rfl rfl ?_
  refine cV.mono h (fun s1 h => ?_) (fun _ _ h => h.elim)
  refine bi_Tr 4 (s' := (14, [(0, .ref 62), (1, .int x0)], [.int (0 : Int32), .int (0 : Int32), .ref 57], st_mm s1)) rfl ?_
  refine bi_TcI (as := [.ref 57, .int (0 : Int32), .int (0 : Int32)]) rfl rfl ?_
  refine cI.mono h (fun r2 s2 h => ?_) (fun _ _ h => h.elim)
  refine bi_Tr 1 (s' := ((if r2 = 0 then 36 else 20), [(0, .ref 62), (1, .int x0)], [], st_mm s2)) rfl (bi_Tif (fun hc => ?_) (fun hc => ?_))
  · have h := h.1 hc
    refine bi_Tr 1 (s' := (37, [(0, .ref 62), (1, .int x0)], [.int (0 : Int32)], st_mm s2)) rfl ?_
    exact bi_Tv rfl rfl (Or.inl ⟨_, _, rfl, h⟩)
  · have h := h.2 hc
    refine bi_Tr 4 (s' := (26, [(0, .ref 62), (1, .int x0)], [.int (0 : Int32), .int (2 : Int32), .ref 57], st_mm s2)) rfl ?_
    refine bi_TcI (as := [.ref 57, .int (2 : Int32), .int (0 : Int32)]) rfl rfl ?_
    refine cI.mono h (fun r3 s3 h => ?_) (fun _ _ h => h.elim)
    refine bi_Tr 1 (s' := ((if r3 = 0 then 36 else 32), [(0, .ref 62), (1, .int x0)], [], st_mm s3)) rfl (bi_Tif (fun hc => ?_) (fun hc => ?_))
    · have h := h.1 hc
      refine bi_Tr 1 (s' := (37, [(0, .ref 62), (1, .int x0)], [.int (0 : Int32)], st_mm s3)) rfl ?_
      exact bi_Tv rfl rfl (Or.inl ⟨_, _, rfl, h⟩)
    · have h := h.2 hc
      refine bi_Tr 2 (s' := (37, [(0, .ref 62), (1, .int x0)], [.int (1 : Int32)], st_mm s3)) rfl ?_
      exact bi_Tv rfl rfl (Or.inl ⟨_, _, rfl, h⟩)
def at_X1_seenAstray_12 (X : bi_X) (d : Nat) (K : Int32 → bi_St → Prop) (E : Nat → bi_St → Prop) (s : bi_St) (y2 : Int32) (y3 : Int32) (b1 : Nat) : Prop := bi_T X d 16 (12, [(0, .ref 62), (1, .ref b1), (2, .int y2), (3, .int y3)], [], st_mm s) (st_RI K E)
theorem go_X1_seenAstray_12 {X : bi_X} {d : Nat} {K : Int32 → bi_St → Prop} {E : Nat → bi_St → Prop}  {s : bi_St} {y2 : Int32} {y3 : Int32} {b1 : Nat} (hb1 : st_isS b1) (h : (((st_g s b1 6) ≤ y3) → K y2 s) ∧ (¬ ((st_g s b1 6) ≤ y3) → bi_in y3 8 = true ∧ ((((st_g s b1 0) ≤ (st_g s (b1 + 5) (y3).toNatClampNeg)) → bi_in y3 8 = true ∧ (cV X d 27 [.ref 57, .int (st_g s (b1 + 5) (y3).toNatClampNeg)] s (fun (s1 : bi_St) => (((0 : Int32) = 0) → at_X1_seenAstray_12 X (d + 1) K E s1 ((y2 ||| ((1 : Int32) <<< (y3 &&& 31)))) ((y3 + (1 : Int32))) (b1)) ∧ (¬ ((0 : Int32) = 0) → cI X d 18 [.ref 62, .int y3] s1 (fun (r2 : Int32) (s2 : bi_St) => ((r2 = 0) → at_X1_seenAstray_12 X (d + 1) K E s2 ((y2 ||| ((1 : Int32) <<< (y3 &&& 31)))) ((y3 + (1 : Int32))) (b1)) ∧ (¬ (r2 = 0) → at_X1_seenAstray_12 X (d + 1) K E s2 ((y2 ||| (0 : Int32))) ((y3 + (1 : Int32))) (b1))) (fun _ _ => False))) (fun _ _ => False))) ∧ (¬ ((st_g s b1 0) ≤ (st_g s (b1 + 5) (y3).toNatClampNeg)) → bi_in y3 8 = true ∧ (cV X d 27 [.ref 57, .int (st_g s (b1 + 5) (y3).toNatClampNeg)] s (fun (s3 : bi_St) => (((1 : Int32) = 0) → at_X1_seenAstray_12 X (d + 1) K E s3 ((y2 ||| ((1 : Int32) <<< (y3 &&& 31)))) ((y3 + (1 : Int32))) (b1)) ∧ (¬ ((1 : Int32) = 0) → cI X d 18 [.ref 62, .int y3] s3 (fun (r4 : Int32) (s4 : bi_St) => ((r4 = 0) → at_X1_seenAstray_12 X (d + 1) K E s4 ((y2 ||| ((1 : Int32) <<< (y3 &&& 31)))) ((y3 + (1 : Int32))) (b1)) ∧ (¬ (r4 = 0) → at_X1_seenAstray_12 X (d + 1) K E s4 ((y2 ||| (0 : Int32))) ((y3 + (1 : Int32))) (b1))) (fun _ _ => False))) (fun _ _ => False)))))) : at_X1_seenAstray_12 X (d + 1) K E s y2 y3 b1 := by
  show bi_T _ _ _ _ _
  refine bi_Tr 2 (s' := (14, [(0, .ref 62), (1, .ref b1), (2, .int y2), (3, .int y3)], [.ref b1, .int y3], st_mm s)) rfl ?_
  refine bi_Tgi (o := 0) rfl rfl rfl (st_kS0 hb1) ?_
  refine bi_Tr 1 (s' := ((if (st_g s b1 6) ≤ y3 then 82 else 20), [(0, .ref 62), (1, .ref b1), (2, .int y2), (3, .int y3)], [], st_mm s)) rfl (bi_Tif (fun hc => ?_) (fun hc => ?_))
  · have h := h.1 hc
    refine bi_Tr 1 (s' := (83, [(0, .ref 62), (1, .ref b1), (2, .int y2), (3, .int y3)], [.int y2], st_mm s)) rfl ?_
    exact bi_Tv rfl rfl (Or.inl ⟨_, _, rfl, h⟩)
  · have h := h.2 hc
    refine bi_Tr 1 (s' := (21, [(0, .ref 62), (1, .ref b1), (2, .int y2), (3, .int y3)], [.ref b1], st_mm s)) rfl ?_
    refine bi_Tgr rfl rfl rfl (st_kS0 hb1) (st_pS9 hb1) ?_
    refine bi_Tr 1 (s' := (25, [(0, .ref 62), (1, .ref b1), (2, .int y2), (3, .int y3)], [.int y3, .ref (b1 + 5)], st_mm s)) rfl ?_
    obtain ⟨hi, h⟩ := h
    refine bi_Tial rfl (by have := hb1; simp only [st_isS] at this; rcases this with h | h | h | h <;> rw [h] <;> rfl) (st_kS5 hb1) hi ?_
    refine bi_Tr 1 (s' := (27, [(0, .ref 62), (1, .ref b1), (2, .int y2), (3, .int y3)], [.ref b1, .int (st_g s (b1 + 5) (y3).toNatClampNeg)], st_mm s)) rfl ?_
    refine bi_Tgi (o := 0) rfl rfl rfl (st_kS0 hb1) ?_
    refine bi_Tr 1 (s' := ((if (st_g s b1 0) ≤ (st_g s (b1 + 5) (y3).toNatClampNeg) then 37 else 33), [(0, .ref 62), (1, .ref b1), (2, .int y2), (3, .int y3)], [], st_mm s)) rfl (bi_Tif (fun hc => ?_) (fun hc => ?_))
    · have h := h.1 hc
      refine bi_Tr 5 (s' := (45, [(4, .int (0 : Int32)), (0, .ref 62), (1, .ref b1), (2, .int y2), (3, .int y3)], [.ref b1, .ref 57], st_mm s)) rfl ?_
      refine bi_Tgr rfl rfl rfl (st_kS0 hb1) (st_pS9 hb1) ?_
      refine bi_Tr 1 (s' := (49, [(4, .int (0 : Int32)), (0, .ref 62), (1, .ref b1), (2, .int y2), (3, .int y3)], [.int y3, .ref (b1 + 5), .ref 57], st_mm s)) rfl ?_
      obtain ⟨hi, h⟩ := h
      refine bi_Tial rfl (by have := hb1; simp only [st_isS] at this; rcases this with h | h | h | h <;> rw [h] <;> rfl) (st_kS5 hb1) hi ?_
      refine bi_TcV (as := [.ref 57, .int (st_g s (b1 + 5) (y3).toNatClampNeg)]) rfl rfl ?_
      refine cV.mono h (fun s1 h => ?_) (fun _ _ h => h.elim)
      refine bi_Tr 3 (s' := ((if (0 : Int32) = 0 then 71 else 59), [(4, .int (0 : Int32)), (0, .ref 62), (1, .ref b1), (2, .int y2), (3, .int y3)], [.int y2], st_mm s1)) rfl (bi_Tif (fun hc => ?_) (fun hc => ?_))
      · have h := h.1 hc
        refine bi_Tr 7 (s' := (12, [(3, .int (y3 + (1 : Int32))), (2, .int (y2 ||| ((1 : Int32) <<< (y3 &&& 31)))), (4, .int (0 : Int32)), (0, .ref 62), (1, .ref b1)], [], st_mm s1)) rfl ?_
        exact bi_Tww h rfl rfl ⟨rfl, rfl, rfl, rfl, trivial⟩
      · have h := h.2 hc
        refine bi_Tr 2 (s' := (61, [(4, .int (0 : Int32)), (0, .ref 62), (1, .ref b1), (2, .int y2), (3, .int y3)], [.int y3, .ref 62, .int y2], st_mm s1)) rfl ?_
        refine bi_TcI (as := [.ref 62, .int y3]) rfl rfl ?_
        refine cI.mono h (fun r2 s2 h => ?_) (fun _ _ h => h.elim)
        refine bi_Tr 1 (s' := ((if r2 = 0 then 71 else 67), [(4, .int (0 : Int32)), (0, .ref 62), (1, .ref b1), (2, .int y2), (3, .int y3)], [.int y2], st_mm s2)) rfl (bi_Tif (fun hc => ?_) (fun hc => ?_))
        · have h := h.1 hc
          refine bi_Tr 7 (s' := (12, [(3, .int (y3 + (1 : Int32))), (2, .int (y2 ||| ((1 : Int32) <<< (y3 &&& 31)))), (4, .int (0 : Int32)), (0, .ref 62), (1, .ref b1)], [], st_mm s2)) rfl ?_
          exact bi_Tww h rfl rfl ⟨rfl, rfl, rfl, rfl, trivial⟩
        · have h := h.2 hc
          refine bi_Tr 6 (s' := (12, [(3, .int (y3 + (1 : Int32))), (2, .int (y2 ||| (0 : Int32))), (4, .int (0 : Int32)), (0, .ref 62), (1, .ref b1)], [], st_mm s2)) rfl ?_
          exact bi_Tww h rfl rfl ⟨rfl, rfl, rfl, rfl, trivial⟩
    · have h := h.2 hc
      refine bi_Tr 6 (s' := (45, [(4, .int (1 : Int32)), (0, .ref 62), (1, .ref b1), (2, .int y2), (3, .int y3)], [.ref b1, .ref 57], st_mm s)) rfl ?_
      refine bi_Tgr rfl rfl rfl (st_kS0 hb1) (st_pS9 hb1) ?_
      refine bi_Tr 1 (s' := (49, [(4, .int (1 : Int32)), (0, .ref 62), (1, .ref b1), (2, .int y2), (3, .int y3)], [.int y3, .ref (b1 + 5), .ref 57], st_mm s)) rfl ?_
      obtain ⟨hi, h⟩ := h
      refine bi_Tial rfl (by have := hb1; simp only [st_isS] at this; rcases this with h | h | h | h <;> rw [h] <;> rfl) (st_kS5 hb1) hi ?_
      refine bi_TcV (as := [.ref 57, .int (st_g s (b1 + 5) (y3).toNatClampNeg)]) rfl rfl ?_
      refine cV.mono h (fun s3 h => ?_) (fun _ _ h => h.elim)
      refine bi_Tr 3 (s' := ((if (1 : Int32) = 0 then 71 else 59), [(4, .int (1 : Int32)), (0, .ref 62), (1, .ref b1), (2, .int y2), (3, .int y3)], [.int y2], st_mm s3)) rfl (bi_Tif (fun hc => ?_) (fun hc => ?_))
      · have h := h.1 hc
        refine bi_Tr 7 (s' := (12, [(3, .int (y3 + (1 : Int32))), (2, .int (y2 ||| ((1 : Int32) <<< (y3 &&& 31)))), (4, .int (1 : Int32)), (0, .ref 62), (1, .ref b1)], [], st_mm s3)) rfl ?_
        exact bi_Tww h rfl rfl ⟨rfl, rfl, rfl, rfl, trivial⟩
      · have h := h.2 hc
        refine bi_Tr 2 (s' := (61, [(4, .int (1 : Int32)), (0, .ref 62), (1, .ref b1), (2, .int y2), (3, .int y3)], [.int y3, .ref 62, .int y2], st_mm s3)) rfl ?_
        refine bi_TcI (as := [.ref 62, .int y3]) rfl rfl ?_
        refine cI.mono h (fun r4 s4 h => ?_) (fun _ _ h => h.elim)
        refine bi_Tr 1 (s' := ((if r4 = 0 then 71 else 67), [(4, .int (1 : Int32)), (0, .ref 62), (1, .ref b1), (2, .int y2), (3, .int y3)], [.int y2], st_mm s4)) rfl (bi_Tif (fun hc => ?_) (fun hc => ?_))
        · have h := h.1 hc
          refine bi_Tr 7 (s' := (12, [(3, .int (y3 + (1 : Int32))), (2, .int (y2 ||| ((1 : Int32) <<< (y3 &&& 31)))), (4, .int (1 : Int32)), (0, .ref 62), (1, .ref b1)], [], st_mm s4)) rfl ?_
          exact bi_Tww h rfl rfl ⟨rfl, rfl, rfl, rfl, trivial⟩
        · have h := h.2 hc
          refine bi_Tr 6 (s' := (12, [(3, .int (y3 + (1 : Int32))), (2, .int (y2 ||| (0 : Int32))), (4, .int (1 : Int32)), (0, .ref 62), (1, .ref b1)], [], st_mm s4)) rfl ?_
          exact bi_Tww h rfl rfl ⟨rfl, rfl, rfl, rfl, trivial⟩
/-- PolicyRows$Insight.seenAstray()I -/
theorem en_X1_seenAstray {X : bi_X} {d : Nat} {K : Int32 → bi_St → Prop} {E : Nat → bi_St → Prop} {s : bi_St}   (h : st_isS (st_gp s 8) ∧ (at_X1_seenAstray_12 X (d + 1) K E s ((0 : Int32)) ((0 : Int32)) ((st_gp s 8)))) : cI X (d + 1) 16 [.ref 62] s K E := by
  show bi_T _ _ _ _ _
  obtain ⟨h0q0_4, h⟩ := h
  refine bi_Tr 8 (s' := (12, [(3, .int (0 : Int32)), (2, .int (0 : Int32)), (1, .ref (st_gp s 8)), (0, .ref 62)], [], st_mm s)) rfl ?_
  exact bi_Tww h rfl rfl ⟨rfl, rfl, rfl, rfl, trivial⟩
def at_X1_seenOf_4 (X : bi_X) (d : Nat) (K : Int32 → bi_St → Prop) (E : Nat → bi_St → Prop) (s : bi_St) (y1 : Int32) (y2 : Int32) (y3 : Int32) : Prop := bi_T X d 17 (4, [(0, .ref 62), (1, .int y1), (2, .int y2), (3, .int y3)], [], st_mm s) (st_RI K E)
theorem go_X1_seenOf_4 {X : bi_X} {d : Nat} {K : Int32 → bi_St → Prop} {E : Nat → bi_St → Prop}  {s : bi_St} {y1 : Int32} {y2 : Int32} {y3 : Int32}  (h : st_isS (st_gp s 8) ∧ ((((st_g s (st_gp s 8) 6) ≤ y3) → K y2 s) ∧ (¬ ((st_g s (st_gp s 8) 6) ≤ y3) → st_isS (st_gp s 8) ∧ (bi_in y3 8 = true ∧ (((¬ (st_g s ((st_gp s 8) + 5) (y3).toNatClampNeg) = y1) → at_X1_seenOf_4 X d K E s (y1) ((y2 ||| (0 : Int32))) ((y3 + (1 : Int32)))) ∧ (¬ (¬ (st_g s ((st_gp s 8) + 5) (y3).toNatClampNeg) = y1) → at_X1_seenOf_4 X d K E s (y1) ((y2 ||| ((1 : Int32) <<< (y3 &&& 31)))) ((y3 + (1 : Int32))))))))) : at_X1_seenOf_4 X d K E s y1 y2 y3 := by
  show bi_T _ _ _ _ _
  obtain ⟨h0q0_9, h⟩ := h
  refine bi_Tr 4 (s' := (12, [(0, .ref 62), (1, .int y1), (2, .int y2), (3, .int y3)], [.ref (st_gp s 8), .int y3], st_mm s)) rfl ?_
  refine bi_Tgi (o := 0) rfl rfl rfl (st_kS0 h0q0_9) ?_
  refine bi_Tr 1 (s' := ((if (st_g s (st_gp s 8) 6) ≤ y3 then 50 else 18), [(0, .ref 62), (1, .int y1), (2, .int y2), (3, .int y3)], [], st_mm s)) rfl (bi_Tif (fun hc => ?_) (fun hc => ?_))
  · have h := h.1 hc
    refine bi_Tr 1 (s' := (51, [(0, .ref 62), (1, .int y1), (2, .int y2), (3, .int y3)], [.int y2], st_mm s)) rfl ?_
    exact bi_Tv rfl rfl (Or.inl ⟨_, _, rfl, h⟩)
  · have h := h.2 hc
    obtain ⟨h0q1_23, h⟩ := h
    refine bi_Tr 4 (s' := (26, [(0, .ref 62), (1, .int y1), (2, .int y2), (3, .int y3)], [.ref (st_gp s 8), .int y2], st_mm s)) rfl ?_
    refine bi_Tgr rfl rfl rfl (st_kS0 h0q1_23) (st_pS9 h0q1_23) ?_
    refine bi_Tr 1 (s' := (30, [(0, .ref 62), (1, .int y1), (2, .int y2), (3, .int y3)], [.int y3, .ref ((st_gp s 8) + 5), .int y2], st_mm s)) rfl ?_
    obtain ⟨hi, h⟩ := h
    refine bi_Tial rfl (by have := h0q1_23; simp only [st_isS] at this; rcases this with h | h | h | h <;> rw [h] <;> rfl) (st_kS5 h0q1_23) hi ?_
    refine bi_Tr 2 (s' := ((if ¬ (st_g s ((st_gp s 8) + 5) (y3).toNatClampNeg) = y1 then 41 else 35), [(0, .ref 62), (1, .int y1), (2, .int y2), (3, .int y3)], [.int y2], st_mm s)) rfl (bi_Tif (fun hc => ?_) (fun hc => ?_))
    · have h := h.1 hc
      refine bi_Tr 5 (s' := (4, [(3, .int (y3 + (1 : Int32))), (2, .int (y2 ||| (0 : Int32))), (0, .ref 62), (1, .int y1)], [], st_mm s)) rfl ?_
      exact bi_Tww h rfl rfl ⟨rfl, rfl, rfl, rfl, trivial⟩
    · have h := h.2 hc
      refine bi_Tr 8 (s' := (4, [(3, .int (y3 + (1 : Int32))), (2, .int (y2 ||| ((1 : Int32) <<< (y3 &&& 31)))), (0, .ref 62), (1, .int y1)], [], st_mm s)) rfl ?_
      exact bi_Tww h rfl rfl ⟨rfl, rfl, rfl, rfl, trivial⟩
/-- PolicyRows$Insight.seenOf(I)I -/
theorem en_X1_seenOf {X : bi_X} {d : Nat} {K : Int32 → bi_St → Prop} {E : Nat → bi_St → Prop} {s : bi_St} {x0 : Int32}  (h : at_X1_seenOf_4 X d K E s (x0) ((0 : Int32)) ((0 : Int32))) : cI X d 17 [.ref 62, .int x0] s K E := by
  show bi_T _ _ _ _ _
  refine bi_Tr 4 (s' := (4, [(3, .int (0 : Int32)), (2, .int (0 : Int32)), (0, .ref 62), (1, .int x0)], [], st_mm s)) rfl ?_
  exact bi_Tww h rfl rfl ⟨rfl, rfl, rfl, rfl, trivial⟩
/-- PolicyRows$Insight.isSo(I)Z -/
theorem en_X1_isSo {X : bi_X} {d : Nat} {K : Int32 → bi_St → Prop} {E : Nat → bi_St → Prop} {s : bi_St} {x0 : Int32}  (h : st_isS (st_gp s 8) ∧ (bi_in x0 8 = true ∧ (cV X d 26 [.ref 57, .int (st_g s ((st_gp s 8) + 4) (x0).toNatClampNeg)] s (fun (s1 : bi_St) => cI X d 31 [.ref 57, .int (0 : Int32), .int (0 : Int32)] s1 (fun (r2 : Int32) (s2 : bi_St) => st_isS (st_gp s2 8) ∧ (cI X d 160 [.int (st_g s2 (st_gp s2 8) 7), .int x0] s2 (fun (r3 : Int32) (s3 : bi_St) => ((¬ r3 = (1 : Int32)) → ((¬ r2 = (0 : Int32)) → K (0 : Int32) s3) ∧ (¬ (¬ r2 = (0 : Int32)) → K (1 : Int32) s3)) ∧ (¬ (¬ r3 = (1 : Int32)) → ((¬ r2 = (1 : Int32)) → K (0 : Int32) s3) ∧ (¬ (¬ r2 = (1 : Int32)) → K (1 : Int32) s3))) (fun _ _ => False))) (fun _ _ => False)) (fun _ _ => False)))) : cI X (d + 1) 18 [.ref 62, .int x0] s K E := by
  show bi_T _ _ _ _ _
  obtain ⟨h0q0_8, h⟩ := h
  refine bi_Tr 5 (s' := (11, [(0, .ref 62), (1, .int x0)], [.ref (st_gp s 8), .ref 57], st_mm s)) rfl ?_
  refine bi_Tgr rfl rfl rfl (st_kS0 h0q0_8) (st_pS8 h0q0_8) ?_
  refine bi_Tr 1 (s' := (15, [(0, .ref 62), (1, .int x0)], [.int x0, .ref ((st_gp s 8) + 4), .ref 57], st_mm s)) rfl ?_
  obtain ⟨hi, h⟩ := h
  refine bi_Tial rfl (by have := h0q0_8; simp only [st_isS] at this; rcases this with h | h | h | h <;> rw [h] <;> rfl) (st_kS4 h0q0_8) hi ?_
  refine bi_TcV (as := [.ref 57, .int (st_g s ((st_gp s 8) + 4) (x0).toNatClampNeg)]) rfl rfl ?_
  refine cV.mono h (fun s1 h => ?_) (fun _ _ h => h.elim)
  refine bi_Tr 4 (s' := (25, [(0, .ref 62), (1, .int x0)], [.int (0 : Int32), .int (0 : Int32), .ref 57], st_mm s1)) rfl ?_
  refine bi_TcI (as := [.ref 57, .int (0 : Int32), .int (0 : Int32)]) rfl rfl ?_
  refine cI.mono h (fun r2 s2 h => ?_) (fun _ _ h => h.elim)
  obtain ⟨h0q0_32, h⟩ := h
  refine bi_Tr 3 (s' := (35, [(0, .ref 62), (1, .int x0)], [.ref (st_gp s2 8), .int r2], st_mm s2)) rfl ?_
  refine bi_Tgi (o := 0) rfl rfl rfl (st_kS0 h0q0_32) ?_
  refine bi_Tr 1 (s' := (39, [(0, .ref 62), (1, .int x0)], [.int x0, .int (st_g s2 (st_gp s2 8) 7), .int r2], st_mm s2)) rfl ?_
  refine bi_TcI (as := [.int (st_g s2 (st_gp s2 8) 7), .int x0]) rfl rfl ?_
  refine cI.mono h (fun r3 s3 h => ?_) (fun _ _ h => h.elim)
  refine bi_Tr 2 (s' := ((if ¬ r3 = (1 : Int32) then 50 else 46), [(0, .ref 62), (1, .int x0)], [.int r2], st_mm s3)) rfl (bi_Tif (fun hc => ?_) (fun hc => ?_))
  · have h := h.1 hc
    refine bi_Tr 2 (s' := ((if ¬ r2 = (0 : Int32) then 58 else 54), [(0, .ref 62), (1, .int x0)], [], st_mm s3)) rfl (bi_Tif (fun hc => ?_) (fun hc => ?_))
    · have h := h.1 hc
      refine bi_Tr 1 (s' := (59, [(0, .ref 62), (1, .int x0)], [.int (0 : Int32)], st_mm s3)) rfl ?_
      exact bi_Tv rfl rfl (Or.inl ⟨_, _, rfl, h⟩)
    · have h := h.2 hc
      refine bi_Tr 2 (s' := (59, [(0, .ref 62), (1, .int x0)], [.int (1 : Int32)], st_mm s3)) rfl ?_
      exact bi_Tv rfl rfl (Or.inl ⟨_, _, rfl, h⟩)
  · have h := h.2 hc
    refine bi_Tr 3 (s' := ((if ¬ r2 = (1 : Int32) then 58 else 54), [(0, .ref 62), (1, .int x0)], [], st_mm s3)) rfl (bi_Tif (fun hc => ?_) (fun hc => ?_))
    · have h := h.1 hc
      refine bi_Tr 1 (s' := (59, [(0, .ref 62), (1, .int x0)], [.int (0 : Int32)], st_mm s3)) rfl ?_
      exact bi_Tv rfl rfl (Or.inl ⟨_, _, rfl, h⟩)
    · have h := h.2 hc
      refine bi_Tr 2 (s' := (59, [(0, .ref 62), (1, .int x0)], [.int (1 : Int32)], st_mm s3)) rfl ?_
      exact bi_Tv rfl rfl (Or.inl ⟨_, _, rfl, h⟩)
def at_X1_tryNumbers_2 (X : bi_X) (d : Nat) (K : bi_St → Prop) (E : Nat → bi_St → Prop) (s : bi_St) (y1 : Int32) (y2 : Int32) (y3 : Int32) : Prop := bi_T X d 19 (2, [(0, .ref 62), (1, .int y1), (2, .int y2), (3, .int y3)], [], st_mm s) (st_RV K E)
def at_X1_tryNumbers_36 (X : bi_X) (d : Nat) (K : bi_St → Prop) (E : Nat → bi_St → Prop) (s : bi_St) (y1 : Int32) (y2 : Int32) (y3 : Int32) (y4 : Int32) (y5 : Int32) : Prop := bi_T X d 19 (36, [(0, .ref 62), (1, .int y1), (2, .int y2), (3, .int y3), (4, .int y4), (5, .int y5)], [], st_mm s) (st_RV K E)
theorem go_X1_tryNumbers_2 {X : bi_X} {d : Nat} {K : bi_St → Prop} {E : Nat → bi_St → Prop}  {s : bi_St} {y1 : Int32} {y2 : Int32} {y3 : Int32}  (h : st_isB (st_gp s 7) ∧ ((((st_g s (st_gp s 7) 0) ≤ y3) → K s) ∧ (¬ ((st_g s (st_gp s 7) 0) ≤ y3) → (((4 : Int32) ≤ y3) → K s) ∧ (¬ ((4 : Int32) ≤ y3) → bi_in y3 4 = true ∧ (at_X1_tryNumbers_36 X (d + 1) K E s (y1) (y2) (y3) ((st_g s 59 (y3).toNatClampNeg)) ((-9 : Int32))))))) : at_X1_tryNumbers_2 X (d + 1) K E s y1 y2 y3 := by
  show bi_T _ _ _ _ _
  obtain ⟨h0q0_7, h⟩ := h
  refine bi_Tr 4 (s' := (10, [(0, .ref 62), (1, .int y1), (2, .int y2), (3, .int y3)], [.ref (st_gp s 7), .int y3], st_mm s)) rfl ?_
  refine bi_Tgi (o := 0) rfl rfl rfl (st_kB0 h0q0_7) ?_
  refine bi_Tr 1 (s' := ((if (st_g s (st_gp s 7) 0) ≤ y3 then 107 else 16), [(0, .ref 62), (1, .int y1), (2, .int y2), (3, .int y3)], [], st_mm s)) rfl (bi_Tif (fun hc => ?_) (fun hc => ?_))
  · have h := h.1 hc
    exact bi_Tv rfl rfl (Or.inl ⟨_, rfl, h⟩)
  · have h := h.2 hc
    refine bi_Tr 3 (s' := ((if (4 : Int32) ≤ y3 then 107 else 21), [(0, .ref 62), (1, .int y1), (2, .int y2), (3, .int y3)], [], st_mm s)) rfl (bi_Tif (fun hc => ?_) (fun hc => ?_))
    · have h := h.1 hc
      exact bi_Tv rfl rfl (Or.inl ⟨_, rfl, h⟩)
    · have h := h.2 hc
      refine bi_Tr 4 (s' := (29, [(0, .ref 62), (1, .int y1), (2, .int y2), (3, .int y3)], [.int y3, .ref 59], st_mm s)) rfl ?_
      obtain ⟨hi, h⟩ := h
      refine bi_Tial rfl rfl rfl hi ?_
      refine bi_Tr 3 (s' := (36, [(5, .int (-9 : Int32)), (4, .int (st_g s 59 (y3).toNatClampNeg)), (0, .ref 62), (1, .int y1), (2, .int y2), (3, .int y3)], [], st_mm s)) rfl ?_
      exact bi_Tww h rfl rfl ⟨rfl, rfl, rfl, rfl, rfl, rfl, trivial⟩
theorem go_X1_tryNumbers_36 {X : bi_X} {d : Nat} {K : bi_St → Prop} {E : Nat → bi_St → Prop}  {s : bi_St} {y1 : Int32} {y2 : Int32} {y3 : Int32} {y4 : Int32} {y5 : Int32}  (h : (((9 : Int32) < y5) → bi_in y3 4 = true ∧ (at_X1_tryNumbers_2 X (d + 1) K E (st_p s 59 (y3).toNatClampNeg y4) (y1) (y2) ((y3 + (1 : Int32))))) ∧ (¬ ((9 : Int32) < y5) → bi_in y3 4 = true ∧ (((y5 = y4) → at_X1_tryNumbers_36 X (d + 1) K E (st_p s 59 (y3).toNatClampNeg y5) (y1) (y2) (y3) (y4) ((y5 + (1 : Int32)))) ∧ (¬ (y5 = y4) → cI X d 20 [.ref 62, .int y1, .int y2] (st_p s 59 (y3).toNatClampNeg y5) (fun (r1 : Int32) (s1 : bi_St) => ((r1 = 0) → at_X1_tryNumbers_36 X (d + 1) K E s1 (y1) (y2) (y3) (y4) ((y5 + (1 : Int32)))) ∧ (¬ (r1 = 0) → cV X d 21 [.ref 62, .int y1, .int y3, .int y5] s1 (fun (s2 : bi_St) => cV X d 22 [.ref 62, .int y1, .int y2] s2 (fun (s3 : bi_St) => at_X1_tryNumbers_36 X (d + 1) K E s3 (y1) (y2) (y3) (y4) ((y5 + (1 : Int32)))) (fun _ _ => False)) (fun _ _ => False))) (fun _ _ => False))))) : at_X1_tryNumbers_36 X (d + 1) K E s y1 y2 y3 y4 y5 := by
  show bi_T _ _ _ _ _
  refine bi_Tr 3 (s' := ((if (9 : Int32) < y5 then 90 else 43), [(0, .ref 62), (1, .int y1), (2, .int y2), (3, .int y3), (4, .int y4), (5, .int y5)], [], st_mm s)) rfl (bi_Tif (fun hc => ?_) (fun hc => ?_))
  · have h := h.1 hc
    refine bi_Tr 5 (s' := (100, [(0, .ref 62), (1, .int y1), (2, .int y2), (3, .int y3), (4, .int y4), (5, .int y5)], [.int y4, .int y3, .ref 59], st_mm s)) rfl ?_
    obtain ⟨hi, h⟩ := h
    refine bi_Tias rfl rfl hi ?_
    refine bi_Tr 2 (s' := (2, [(3, .int (y3 + (1 : Int32))), (0, .ref 62), (1, .int y1), (2, .int y2), (4, .int y4), (5, .int y5)], [], st_mm (st_p s 59 (y3).toNatClampNeg y4))) rfl ?_
    exact bi_Tww h rfl rfl ⟨rfl, rfl, rfl, rfl, trivial⟩
  · have h := h.2 hc
    refine bi_Tr 5 (s' := (53, [(0, .ref 62), (1, .int y1), (2, .int y2), (3, .int y3), (4, .int y4), (5, .int y5)], [.int y5, .int y3, .ref 59], st_mm s)) rfl ?_
    obtain ⟨hi, h⟩ := h
    refine bi_Tias rfl rfl hi ?_
    refine bi_Tr 3 (s' := ((if y5 = y4 then 84 else 61), [(0, .ref 62), (1, .int y1), (2, .int y2), (3, .int y3), (4, .int y4), (5, .int y5)], [], st_mm (st_p s 59 (y3).toNatClampNeg y5))) rfl (bi_Tif (fun hc => ?_) (fun hc => ?_))
    · have h := h.1 hc
      refine bi_Tr 2 (s' := (36, [(5, .int (y5 + (1 : Int32))), (0, .ref 62), (1, .int y1), (2, .int y2), (3, .int y3), (4, .int y4)], [], st_mm (st_p s 59 (y3).toNatClampNeg y5))) rfl ?_
      exact bi_Tww h rfl rfl ⟨rfl, rfl, rfl, rfl, rfl, rfl, trivial⟩
    · have h := h.2 hc
      refine bi_Tr 3 (s' := (64, [(0, .ref 62), (1, .int y1), (2, .int y2), (3, .int y3), (4, .int y4), (5, .int y5)], [.int y2, .int y1, .ref 62], st_mm (st_p s 59 (y3).toNatClampNeg y5))) rfl ?_
      refine bi_TcI (as := [.ref 62, .int y1, .int y2]) rfl rfl ?_
      refine cI.mono h (fun r1 s1 h => ?_) (fun _ _ h => h.elim)
      refine bi_Tr 1 (s' := ((if r1 = 0 then 84 else 70), [(0, .ref 62), (1, .int y1), (2, .int y2), (3, .int y3), (4, .int y4), (5, .int y5)], [], st_mm s1)) rfl (bi_Tif (fun hc => ?_) (fun hc => ?_))
      · have h := h.1 hc
        refine bi_Tr 2 (s' := (36, [(5, .int (y5 + (1 : Int32))), (0, .ref 62), (1, .int y1), (2, .int y2), (3, .int y3), (4, .int y4)], [], st_mm s1)) rfl ?_
        exact bi_Tww h rfl rfl ⟨rfl, rfl, rfl, rfl, rfl, rfl, trivial⟩
      · have h := h.2 hc
        refine bi_Tr 4 (s' := (75, [(0, .ref 62), (1, .int y1), (2, .int y2), (3, .int y3), (4, .int y4), (5, .int y5)], [.int y5, .int y3, .int y1, .ref 62], st_mm s1)) rfl ?_
        refine bi_TcV (as := [.ref 62, .int y1, .int y3, .int y5]) rfl rfl ?_
        refine cV.mono h (fun s2 h => ?_) (fun _ _ h => h.elim)
        refine bi_Tr 3 (s' := (81, [(0, .ref 62), (1, .int y1), (2, .int y2), (3, .int y3), (4, .int y4), (5, .int y5)], [.int y2, .int y1, .ref 62], st_mm s2)) rfl ?_
        refine bi_TcV (as := [.ref 62, .int y1, .int y2]) rfl rfl ?_
        refine cV.mono h (fun s3 h => ?_) (fun _ _ h => h.elim)
        refine bi_Tr 2 (s' := (36, [(5, .int (y5 + (1 : Int32))), (0, .ref 62), (1, .int y1), (2, .int y2), (3, .int y3), (4, .int y4)], [], st_mm s3)) rfl ?_
        exact bi_Tww h rfl rfl ⟨rfl, rfl, rfl, rfl, rfl, rfl, trivial⟩
/-- PolicyRows$Insight.tryNumbers(II)V -/
theorem en_X1_tryNumbers {X : bi_X} {d : Nat} {K : bi_St → Prop} {E : Nat → bi_St → Prop} {s : bi_St} {x0 : Int32} {x1 : Int32}  (h : at_X1_tryNumbers_2 X (d + 1) K E s (x0) (x1) ((0 : Int32))) : cV X (d + 1) 19 [.ref 62, .int x0, .int x1] s K E := by
  show bi_T _ _ _ _ _
  refine bi_Tr 2 (s' := (2, [(3, .int (0 : Int32)), (0, .ref 62), (1, .int x0), (2, .int x1)], [], st_mm s)) rfl ?_
  exact bi_Tww h rfl rfl ⟨rfl, rfl, rfl, rfl, trivial⟩
def at_X1_fits_36 (X : bi_X) (d : Nat) (K : Int32 → bi_St → Prop) (E : Nat → bi_St → Prop) (s : bi_St) (y1 : Int32) (y3 : Int32) : Prop := bi_T X d 20 (36, [(0, .ref 62), (1, .int y1), (3, .int y3)], [], st_mm s) (st_RI K E)
theorem go_X1_fits_36 {X : bi_X} {d : Nat} {K : Int32 → bi_St → Prop} {E : Nat → bi_St → Prop}  {s : bi_St} {y1 : Int32} {y3 : Int32}  (h : st_isS (st_gp s 8) ∧ ((((st_g s (st_gp s 8) 6) ≤ y3) → K (1 : Int32) s) ∧ (¬ ((st_g s (st_gp s 8) 6) ≤ y3) → st_isS (st_gp s 8) ∧ (bi_in y3 8 = true ∧ (((¬ (st_g s ((st_gp s 8) + 5) (y3).toNatClampNeg) = y1) → at_X1_fits_36 X (d + 1) K E s (y1) ((y3 + (1 : Int32)))) ∧ (¬ (¬ (st_g s ((st_gp s 8) + 5) (y3).toNatClampNeg) = y1) → st_isS (st_gp s 8) ∧ (bi_in y3 8 = true ∧ (cV X d 26 [.ref 57, .int (st_g s ((st_gp s 8) + 4) (y3).toNatClampNeg)] s (fun (s3 : bi_St) => cI X d 31 [.ref 57, .int (0 : Int32), .int (0 : Int32)] s3 (fun (r4 : Int32) (s4 : bi_St) => st_isS (st_gp s4 8) ∧ (cI X d 160 [.int (st_g s4 (st_gp s4 8) 7), .int y3] s4 (fun (r5 : Int32) (s5 : bi_St) => ((¬ r5 = (1 : Int32)) → ((r4 = (0 : Int32)) → at_X1_fits_36 X (d + 1) K E s5 (y1) ((y3 + (1 : Int32)))) ∧ (¬ (r4 = (0 : Int32)) → K (0 : Int32) s5)) ∧ (¬ (¬ r5 = (1 : Int32)) → ((r4 = (1 : Int32)) → at_X1_fits_36 X (d + 1) K E s5 (y1) ((y3 + (1 : Int32)))) ∧ (¬ (r4 = (1 : Int32)) → K (0 : Int32) s5))) (fun _ _ => False))) (fun _ _ => False)) (fun _ _ => False))))))))) : at_X1_fits_36 X (d + 1) K E s y1 y3 := by
  show bi_T _ _ _ _ _
  obtain ⟨h0q0_41, h⟩ := h
  refine bi_Tr 4 (s' := (44, [(0, .ref 62), (1, .int y1), (3, .int y3)], [.ref (st_gp s 8), .int y3], st_mm s)) rfl ?_
  refine bi_Tgi (o := 0) rfl rfl rfl (st_kS0 h0q0_41) ?_
  refine bi_Tr 1 (s' := ((if (st_g s (st_gp s 8) 6) ≤ y3 then 128 else 50), [(0, .ref 62), (1, .int y1), (3, .int y3)], [], st_mm s)) rfl (bi_Tif (fun hc => ?_) (fun hc => ?_))
  · have h := h.1 hc
    refine bi_Tr 1 (s' := (129, [(0, .ref 62), (1, .int y1), (3, .int y3)], [.int (1 : Int32)], st_mm s)) rfl ?_
    exact bi_Tv rfl rfl (Or.inl ⟨_, _, rfl, h⟩)
  · have h := h.2 hc
    obtain ⟨h0q1_54, h⟩ := h
    refine bi_Tr 3 (s' := (57, [(0, .ref 62), (1, .int y1), (3, .int y3)], [.ref (st_gp s 8)], st_mm s)) rfl ?_
    refine bi_Tgr rfl rfl rfl (st_kS0 h0q1_54) (st_pS9 h0q1_54) ?_
    refine bi_Tr 1 (s' := (61, [(0, .ref 62), (1, .int y1), (3, .int y3)], [.int y3, .ref ((st_gp s 8) + 5)], st_mm s)) rfl ?_
    obtain ⟨hi, h⟩ := h
    refine bi_Tial rfl (by have := h0q1_54; simp only [st_isS] at this; rcases this with h | h | h | h <;> rw [h] <;> rfl) (st_kS5 h0q1_54) hi ?_
    refine bi_Tr 2 (s' := ((if ¬ (st_g s ((st_gp s 8) + 5) (y3).toNatClampNeg) = y1 then 122 else 66), [(0, .ref 62), (1, .int y1), (3, .int y3)], [], st_mm s)) rfl (bi_Tif (fun hc => ?_) (fun hc => ?_))
    · have h := h.1 hc
      refine bi_Tr 2 (s' := (36, [(3, .int (y3 + (1 : Int32))), (0, .ref 62), (1, .int y1)], [], st_mm s)) rfl ?_
      exact bi_Tww h rfl rfl ⟨rfl, rfl, rfl, trivial⟩
    · have h := h.2 hc
      obtain ⟨h0q2_74, h⟩ := h
      refine bi_Tr 5 (s' := (77, [(0, .ref 62), (1, .int y1), (3, .int y3)], [.ref (st_gp s 8), .ref 57], st_mm s)) rfl ?_
      refine bi_Tgr rfl rfl rfl (st_kS0 h0q2_74) (st_pS8 h0q2_74) ?_
      refine bi_Tr 1 (s' := (81, [(0, .ref 62), (1, .int y1), (3, .int y3)], [.int y3, .ref ((st_gp s 8) + 4), .ref 57], st_mm s)) rfl ?_
      obtain ⟨hi, h⟩ := h
      refine bi_Tial rfl (by have := h0q2_74; simp only [st_isS] at this; rcases this with h | h | h | h <;> rw [h] <;> rfl) (st_kS4 h0q2_74) hi ?_
      refine bi_TcV (as := [.ref 57, .int (st_g s ((st_gp s 8) + 4) (y3).toNatClampNeg)]) rfl rfl ?_
      refine cV.mono h (fun s3 h => ?_) (fun _ _ h => h.elim)
      refine bi_Tr 4 (s' := (91, [(0, .ref 62), (1, .int y1), (3, .int y3)], [.int (0 : Int32), .int (0 : Int32), .ref 57], st_mm s3)) rfl ?_
      refine bi_TcI (as := [.ref 57, .int (0 : Int32), .int (0 : Int32)]) rfl rfl ?_
      refine cI.mono h (fun r4 s4 h => ?_) (fun _ _ h => h.elim)
      obtain ⟨h0q2_98, h⟩ := h
      refine bi_Tr 3 (s' := (101, [(0, .ref 62), (1, .int y1), (3, .int y3)], [.ref (st_gp s4 8), .int r4], st_mm s4)) rfl ?_
      refine bi_Tgi (o := 0) rfl rfl rfl (st_kS0 h0q2_98) ?_
      refine bi_Tr 1 (s' := (105, [(0, .ref 62), (1, .int y1), (3, .int y3)], [.int y3, .int (st_g s4 (st_gp s4 8) 7), .int r4], st_mm s4)) rfl ?_
      refine bi_TcI (as := [.int (st_g s4 (st_gp s4 8) 7), .int y3]) rfl rfl ?_
      refine cI.mono h (fun r5 s5 h => ?_) (fun _ _ h => h.elim)
      refine bi_Tr 2 (s' := ((if ¬ r5 = (1 : Int32) then 116 else 112), [(0, .ref 62), (1, .int y1), (3, .int y3)], [.int r4], st_mm s5)) rfl (bi_Tif (fun hc => ?_) (fun hc => ?_))
      · have h := h.1 hc
        refine bi_Tr 2 (s' := ((if r4 = (0 : Int32) then 122 else 120), [(0, .ref 62), (1, .int y1), (3, .int y3)], [], st_mm s5)) rfl (bi_Tif (fun hc => ?_) (fun hc => ?_))
        · have h := h.1 hc
          refine bi_Tr 2 (s' := (36, [(3, .int (y3 + (1 : Int32))), (0, .ref 62), (1, .int y1)], [], st_mm s5)) rfl ?_
          exact bi_Tww h rfl rfl ⟨rfl, rfl, rfl, trivial⟩
        · have h := h.2 hc
          refine bi_Tr 1 (s' := (121, [(0, .ref 62), (1, .int y1), (3, .int y3)], [.int (0 : Int32)], st_mm s5)) rfl ?_
          exact bi_Tv rfl rfl (Or.inl ⟨_, _, rfl, h⟩)
      · have h := h.2 hc
        refine bi_Tr 3 (s' := ((if r4 = (1 : Int32) then 122 else 120), [(0, .ref 62), (1, .int y1), (3, .int y3)], [], st_mm s5)) rfl (bi_Tif (fun hc => ?_) (fun hc => ?_))
        · have h := h.1 hc
          refine bi_Tr 2 (s' := (36, [(3, .int (y3 + (1 : Int32))), (0, .ref 62), (1, .int y1)], [], st_mm s5)) rfl ?_
          exact bi_Tww h rfl rfl ⟨rfl, rfl, rfl, trivial⟩
        · have h := h.2 hc
          refine bi_Tr 1 (s' := (121, [(0, .ref 62), (1, .int y1), (3, .int y3)], [.int (0 : Int32)], st_mm s5)) rfl ?_
          exact bi_Tv rfl rfl (Or.inl ⟨_, _, rfl, h⟩)
/-- PolicyRows$Insight.fits(II)Z -/
theorem en_X1_fits {X : bi_X} {d : Nat} {K : Int32 → bi_St → Prop} {E : Nat → bi_St → Prop} {s : bi_St} {x0 : Int32} {x1 : Int32}  (h : ((¬ x1 = 0) → at_X1_fits_36 X (d + 1) K E s (x0) ((0 : Int32))) ∧ (¬ (¬ x1 = 0) → cI X d 31 [.ref 57, .int (2 : Int32), .int (1 : Int32)] s (fun (r1 : Int32) (s1 : bi_St) => ((r1 = 0) → K (0 : Int32) s1) ∧ (¬ (r1 = 0) → cI X d 31 [.ref 57, .int (0 : Int32), .int (0 : Int32)] s1 (fun (r2 : Int32) (s2 : bi_St) => ((¬ r2 = 0) → K (0 : Int32) s2) ∧ (¬ (¬ r2 = 0) → K (1 : Int32) s2)) (fun _ _ => False))) (fun _ _ => False))) : cI X (d + 1) 20 [.ref 62, .int x0, .int x1] s K E := by
  show bi_T _ _ _ _ _
  refine bi_Tr 2 (s' := ((if ¬ x1 = 0 then 34 else 4), [(0, .ref 62), (1, .int x0), (2, .int x1)], [], st_mm s)) rfl (bi_Tif (fun hc => ?_) (fun hc => ?_))
  · have h := h.1 hc
    refine bi_Tr 2 (s' := (36, [(3, .int (0 : Int32)), (0, .ref 62), (1, .int x0), (2, .int x1)], [], st_mm s)) rfl ?_
    exact bi_Tww h rfl rfl ⟨rfl, rfl, rfl, trivial⟩
  · have h := h.2 hc
    refine bi_Tr 4 (s' := (10, [(0, .ref 62), (1, .int x0), (2, .int x1)], [.int (1 : Int32), .int (2 : Int32), .ref 57], st_mm s)) rfl ?_
    refine bi_TcI (as := [.ref 57, .int (2 : Int32), .int (1 : Int32)]) rfl rfl ?_
    refine cI.mono h (fun r1 s1 h => ?_) (fun _ _ h => h.elim)
    refine bi_Tr 1 (s' := ((if r1 = 0 then 32 else 16), [(0, .ref 62), (1, .int x0), (2, .int x1)], [], st_mm s1)) rfl (bi_Tif (fun hc => ?_) (fun hc => ?_))
    · have h := h.1 hc
      refine bi_Tr 1 (s' := (33, [(0, .ref 62), (1, .int x0), (2, .int x1)], [.int (0 : Int32)], st_mm s1)) rfl ?_
      exact bi_Tv rfl rfl (Or.inl ⟨_, _, rfl, h⟩)
    · have h := h.2 hc
      refine bi_Tr 4 (s' := (22, [(0, .ref 62), (1, .int x0), (2, .int x1)], [.int (0 : Int32), .int (0 : Int32), .ref 57], st_mm s1)) rfl ?_
      refine bi_TcI (as := [.ref 57, .int (0 : Int32), .int (0 : Int32)]) rfl rfl ?_
      refine cI.mono h (fun r2 s2 h => ?_) (fun _ _ h => h.elim)
      refine bi_Tr 1 (s' := ((if ¬ r2 = 0 then 32 else 28), [(0, .ref 62), (1, .int x0), (2, .int x1)], [], st_mm s2)) rfl (bi_Tif (fun hc => ?_) (fun hc => ?_))
      · have h := h.1 hc
        refine bi_Tr 1 (s' := (33, [(0, .ref 62), (1, .int x0), (2, .int x1)], [.int (0 : Int32)], st_mm s2)) rfl ?_
        exact bi_Tv rfl rfl (Or.inl ⟨_, _, rfl, h⟩)
      · have h := h.2 hc
        refine bi_Tr 2 (s' := (33, [(0, .ref 62), (1, .int x0), (2, .int x1)], [.int (1 : Int32)], st_mm s2)) rfl ?_
        exact bi_Tv rfl rfl (Or.inl ⟨_, _, rfl, h⟩)
/-- PolicyRows$Insight.noteFound(III)V -/
theorem en_X1_noteFound {X : bi_X} {d : Nat} {K : bi_St → Prop} {E : Nat → bi_St → Prop} {s : bi_St} {x0 : Int32} {x1 : Int32} {x2 : Int32}  (h : ((¬ (st_g (st_p s 62 4 ((st_g s 62 4) + (1 : Int32))) 62 5) = (-1 : Int32)) → K (st_p s 62 4 ((st_g s 62 4) + (1 : Int32)))) ∧ (¬ (¬ (st_g (st_p s 62 4 ((st_g s 62 4) + (1 : Int32))) 62 5) = (-1 : Int32)) → K (st_p (st_p s 62 4 ((st_g s 62 4) + (1 : Int32))) 62 5 (((((1000 : Int32) * x0) + ((100 : Int32) * x1)) + x2) + (50 : Int32))))) : cV X d 21 [.ref 62, .int x0, .int x1, .int x2] s K E := by
  show bi_T _ _ _ _ _
  refine bi_Tr 10 (s' := ((if ¬ (st_g (st_p s 62 4 ((st_g s 62 4) + (1 : Int32))) 62 5) = (-1 : Int32) then 37 else 18), [(0, .ref 62), (1, .int x0), (2, .int x1), (3, .int x2)], [], st_mm (st_p s 62 4 ((st_g s 62 4) + (1 : Int32))))) rfl (bi_Tif (fun hc => ?_) (fun hc => ?_))
  · have h := h.1 hc
    exact bi_Tv rfl rfl (Or.inl ⟨_, rfl, h⟩)
  · have h := h.2 hc
    refine bi_Tr 13 (s' := (37, [(0, .ref 62), (1, .int x0), (2, .int x1), (3, .int x2)], [], st_mm (st_p (st_p s 62 4 ((st_g s 62 4) + (1 : Int32))) 62 5 (((((1000 : Int32) * x0) + ((100 : Int32) * x1)) + x2) + (50 : Int32))))) rfl ?_
    exact bi_Tv rfl rfl (Or.inl ⟨_, rfl, h⟩)
def at_X1_noteTurns_8 (X : bi_X) (d : Nat) (K : bi_St → Prop) (E : Nat → bi_St → Prop) (s : bi_St) (y1 : Int32) (y3 : Int32) : Prop := bi_T X d 22 (8, [(0, .ref 62), (1, .int y1), (3, .int y3)], [], st_mm s) (st_RV K E)
theorem go_X1_noteTurns_8 {X : bi_X} {d : Nat} {K : bi_St → Prop} {E : Nat → bi_St → Prop}  {s : bi_St} {y1 : Int32} {y3 : Int32}  (h : st_isB (st_gp s 7) ∧ ((((st_g s (st_gp s 7) 1) ≤ y3) → K s) ∧ (¬ ((st_g s (st_gp s 7) 1) ≤ y3) → cV X d 26 [.ref 57, .int y3] s (fun (s1 : bi_St) => cI X d 31 [.ref 57, .int (0 : Int32), .int (0 : Int32)] s1 (fun (r2 : Int32) (s2 : bi_St) => bi_in y3 6 = true ∧ (cI X d 160 [.int (st_g s2 63 (y3).toNatClampNeg), .int y1] s2 (fun (r3 : Int32) (s3 : bi_St) => ((¬ r3 = (1 : Int32)) → ((r2 = (0 : Int32)) → bi_in y3 6 = true ∧ ((((0 : Int32) = 0) → bi_in y3 6 = true ∧ ((((0 : Int32) = 0) → at_X1_noteTurns_8 X (d + 1) K E (st_p (st_p s3 64 (y3).toNatClampNeg ((st_g s3 64 (y3).toNatClampNeg) ||| (0 : Int32))) 62 3 ((st_g (st_p s3 64 (y3).toNatClampNeg ((st_g s3 64 (y3).toNatClampNeg) ||| (0 : Int32))) 62 3) ||| ((1 : Int32) <<< (y3 &&& 31)))) (y1) ((y3 + (1 : Int32)))) ∧ (¬ ((0 : Int32) = 0) → at_X1_noteTurns_8 X (d + 1) K E (st_p (st_p s3 64 (y3).toNatClampNeg ((st_g s3 64 (y3).toNatClampNeg) ||| (0 : Int32))) 62 3 ((st_g (st_p s3 64 (y3).toNatClampNeg ((st_g s3 64 (y3).toNatClampNeg) ||| (0 : Int32))) 62 3) ||| (0 : Int32))) (y1) ((y3 + (1 : Int32)))))) ∧ (¬ ((0 : Int32) = 0) → bi_in y3 6 = true ∧ ((((0 : Int32) = 0) → at_X1_noteTurns_8 X (d + 1) K E (st_p (st_p s3 64 (y3).toNatClampNeg ((st_g s3 64 (y3).toNatClampNeg) ||| ((1 : Int32) <<< (y1 &&& 31)))) 62 3 ((st_g (st_p s3 64 (y3).toNatClampNeg ((st_g s3 64 (y3).toNatClampNeg) ||| ((1 : Int32) <<< (y1 &&& 31)))) 62 3) ||| ((1 : Int32) <<< (y3 &&& 31)))) (y1) ((y3 + (1 : Int32)))) ∧ (¬ ((0 : Int32) = 0) → at_X1_noteTurns_8 X (d + 1) K E (st_p (st_p s3 64 (y3).toNatClampNeg ((st_g s3 64 (y3).toNatClampNeg) ||| ((1 : Int32) <<< (y1 &&& 31)))) 62 3 ((st_g (st_p s3 64 (y3).toNatClampNeg ((st_g s3 64 (y3).toNatClampNeg) ||| ((1 : Int32) <<< (y1 &&& 31)))) 62 3) ||| (0 : Int32))) (y1) ((y3 + (1 : Int32)))))))) ∧ (¬ (r2 = (0 : Int32)) → bi_in y3 6 = true ∧ ((((1 : Int32) = 0) → bi_in y3 6 = true ∧ ((((1 : Int32) = 0) → at_X1_noteTurns_8 X (d + 1) K E (st_p (st_p s3 64 (y3).toNatClampNeg ((st_g s3 64 (y3).toNatClampNeg) ||| (0 : Int32))) 62 3 ((st_g (st_p s3 64 (y3).toNatClampNeg ((st_g s3 64 (y3).toNatClampNeg) ||| (0 : Int32))) 62 3) ||| ((1 : Int32) <<< (y3 &&& 31)))) (y1) ((y3 + (1 : Int32)))) ∧ (¬ ((1 : Int32) = 0) → at_X1_noteTurns_8 X (d + 1) K E (st_p (st_p s3 64 (y3).toNatClampNeg ((st_g s3 64 (y3).toNatClampNeg) ||| (0 : Int32))) 62 3 ((st_g (st_p s3 64 (y3).toNatClampNeg ((st_g s3 64 (y3).toNatClampNeg) ||| (0 : Int32))) 62 3) ||| (0 : Int32))) (y1) ((y3 + (1 : Int32)))))) ∧ (¬ ((1 : Int32) = 0) → bi_in y3 6 = true ∧ ((((1 : Int32) = 0) → at_X1_noteTurns_8 X (d + 1) K E (st_p (st_p s3 64 (y3).toNatClampNeg ((st_g s3 64 (y3).toNatClampNeg) ||| ((1 : Int32) <<< (y1 &&& 31)))) 62 3 ((st_g (st_p s3 64 (y3).toNatClampNeg ((st_g s3 64 (y3).toNatClampNeg) ||| ((1 : Int32) <<< (y1 &&& 31)))) 62 3) ||| ((1 : Int32) <<< (y3 &&& 31)))) (y1) ((y3 + (1 : Int32)))) ∧ (¬ ((1 : Int32) = 0) → at_X1_noteTurns_8 X (d + 1) K E (st_p (st_p s3 64 (y3).toNatClampNeg ((st_g s3 64 (y3).toNatClampNeg) ||| ((1 : Int32) <<< (y1 &&& 31)))) 62 3 ((st_g (st_p s3 64 (y3).toNatClampNeg ((st_g s3 64 (y3).toNatClampNeg) ||| ((1 : Int32) <<< (y1 &&& 31)))) 62 3) ||| (0 : Int32))) (y1) ((y3 + (1 : Int32))))))))) ∧ (¬ (¬ r3 = (1 : Int32)) → ((r2 = (1 : Int32)) → bi_in y3 6 = true ∧ ((((0 : Int32) = 0) → bi_in y3 6 = true ∧ ((((0 : Int32) = 0) → at_X1_noteTurns_8 X (d + 1) K E (st_p (st_p s3 64 (y3).toNatClampNeg ((st_g s3 64 (y3).toNatClampNeg) ||| (0 : Int32))) 62 3 ((st_g (st_p s3 64 (y3).toNatClampNeg ((st_g s3 64 (y3).toNatClampNeg) ||| (0 : Int32))) 62 3) ||| ((1 : Int32) <<< (y3 &&& 31)))) (y1) ((y3 + (1 : Int32)))) ∧ (¬ ((0 : Int32) = 0) → at_X1_noteTurns_8 X (d + 1) K E (st_p (st_p s3 64 (y3).toNatClampNeg ((st_g s3 64 (y3).toNatClampNeg) ||| (0 : Int32))) 62 3 ((st_g (st_p s3 64 (y3).toNatClampNeg ((st_g s3 64 (y3).toNatClampNeg) ||| (0 : Int32))) 62 3) ||| (0 : Int32))) (y1) ((y3 + (1 : Int32)))))) ∧ (¬ ((0 : Int32) = 0) → bi_in y3 6 = true ∧ ((((0 : Int32) = 0) → at_X1_noteTurns_8 X (d + 1) K E (st_p (st_p s3 64 (y3).toNatClampNeg ((st_g s3 64 (y3).toNatClampNeg) ||| ((1 : Int32) <<< (y1 &&& 31)))) 62 3 ((st_g (st_p s3 64 (y3).toNatClampNeg ((st_g s3 64 (y3).toNatClampNeg) ||| ((1 : Int32) <<< (y1 &&& 31)))) 62 3) ||| ((1 : Int32) <<< (y3 &&& 31)))) (y1) ((y3 + (1 : Int32)))) ∧ (¬ ((0 : Int32) = 0) → at_X1_noteTurns_8 X (d + 1) K E (st_p (st_p s3 64 (y3).toNatClampNeg ((st_g s3 64 (y3).toNatClampNeg) ||| ((1 : Int32) <<< (y1 &&& 31)))) 62 3 ((st_g (st_p s3 64 (y3).toNatClampNeg ((st_g s3 64 (y3).toNatClampNeg) ||| ((1 : Int32) <<< (y1 &&& 31)))) 62 3) ||| (0 : Int32))) (y1) ((y3 + (1 : Int32)))))))) ∧ (¬ (r2 = (1 : Int32)) → bi_in y3 6 = true ∧ ((((1 : Int32) = 0) → bi_in y3 6 = true ∧ ((((1 : Int32) = 0) → at_X1_noteTurns_8 X (d + 1) K E (st_p (st_p s3 64 (y3).toNatClampNeg ((st_g s3 64 (y3).toNatClampNeg) ||| (0 : Int32))) 62 3 ((st_g (st_p s3 64 (y3).toNatClampNeg ((st_g s3 64 (y3).toNatClampNeg) ||| (0 : Int32))) 62 3) ||| ((1 : Int32) <<< (y3 &&& 31)))) (y1) ((y3 + (1 : Int32)))) ∧ (¬ ((1 : Int32) = 0) → at_X1_noteTurns_8 X (d + 1) K E (st_p (st_p s3 64 (y3).toNatClampNeg ((st_g s3 64 (y3).toNatClampNeg) ||| (0 : Int32))) 62 3 ((st_g (st_p s3 64 (y3).toNatClampNeg ((st_g s3 64 (y3).toNatClampNeg) ||| (0 : Int32))) 62 3) ||| (0 : Int32))) (y1) ((y3 + (1 : Int32)))))) ∧ (¬ ((1 : Int32) = 0) → bi_in y3 6 = true ∧ ((((1 : Int32) = 0) → at_X1_noteTurns_8 X (d + 1) K E (st_p (st_p s3 64 (y3).toNatClampNeg ((st_g s3 64 (y3).toNatClampNeg) ||| ((1 : Int32) <<< (y1 &&& 31)))) 62 3 ((st_g (st_p s3 64 (y3).toNatClampNeg ((st_g s3 64 (y3).toNatClampNeg) ||| ((1 : Int32) <<< (y1 &&& 31)))) 62 3) ||| ((1 : Int32) <<< (y3 &&& 31)))) (y1) ((y3 + (1 : Int32)))) ∧ (¬ ((1 : Int32) = 0) → at_X1_noteTurns_8 X (d + 1) K E (st_p (st_p s3 64 (y3).toNatClampNeg ((st_g s3 64 (y3).toNatClampNeg) ||| ((1 : Int32) <<< (y1 &&& 31)))) 62 3 ((st_g (st_p s3 64 (y3).toNatClampNeg ((st_g s3 64 (y3).toNatClampNeg) ||| ((1 : Int32) <<< (y1 &&& 31)))) 62 3) ||| (0 : Int32))) (y1) ((y3 + (1 : Int32)))))))))) (fun _ _ => False))) (fun _ _ => False)) (fun _ _ => False)))) : at_X1_noteTurns_8 X (d + 1) K E s y1 y3 := by
  show bi_T _ _ _ _ _
  obtain ⟨h0q0_13, h⟩ := h
  refine bi_Tr 4 (s' := (16, [(0, .ref 62), (1, .int y1), (3, .int y3)], [.ref (st_gp s 7), .int y3], st_mm s)) rfl ?_
  refine bi_Tgi (o := 0) rfl rfl rfl (st_kB0 h0q0_13) ?_
  refine bi_Tr 1 (s' := ((if (st_g s (st_gp s 7) 1) ≤ y3 then 116 else 22), [(0, .ref 62), (1, .int y1), (3, .int y3)], [], st_mm s)) rfl (bi_Tif (fun hc => ?_) (fun hc => ?_))
  · have h := h.1 hc
    exact bi_Tv rfl rfl (Or.inl ⟨_, rfl, h⟩)
  · have h := h.2 hc
    refine bi_Tr 3 (s' := (27, [(0, .ref 62), (1, .int y1), (3, .int y3)], [.int y3, .ref 57], st_mm s)) rfl ?_
    refine bi_TcV (as := [.ref 57, .int y3]) rfl rfl ?_
    refine cV.mono h (fun s1 h => ?_) (fun _ _ h => h.elim)
    refine bi_Tr 4 (s' := (36, [(0, .ref 62), (1, .int y1), (3, .int y3)], [.int (0 : Int32), .int (0 : Int32), .ref 57], st_mm s1)) rfl ?_
    refine bi_TcI (as := [.ref 57, .int (0 : Int32), .int (0 : Int32)]) rfl rfl ?_
    refine cI.mono h (fun r2 s2 h => ?_) (fun _ _ h => h.elim)
    refine bi_Tr 3 (s' := (44, [(0, .ref 62), (1, .int y1), (3, .int y3)], [.int y3, .ref 63, .int r2], st_mm s2)) rfl ?_
    obtain ⟨hi, h⟩ := h
    refine bi_Tial rfl rfl rfl hi ?_
    refine bi_Tr 1 (s' := (46, [(0, .ref 62), (1, .int y1), (3, .int y3)], [.int y1, .int (st_g s2 63 (y3).toNatClampNeg), .int r2], st_mm s2)) rfl ?_
    refine bi_TcI (as := [.int (st_g s2 63 (y3).toNatClampNeg), .int y1]) rfl rfl ?_
    refine cI.mono h (fun r3 s3 h => ?_) (fun _ _ h => h.elim)
    refine bi_Tr 2 (s' := ((if ¬ r3 = (1 : Int32) then 57 else 53), [(0, .ref 62), (1, .int y1), (3, .int y3)], [.int r2], st_mm s3)) rfl (bi_Tif (fun hc => ?_) (fun hc => ?_))
    · have h := h.1 hc
      refine bi_Tr 2 (s' := ((if r2 = (0 : Int32) then 65 else 61), [(0, .ref 62), (1, .int y1), (3, .int y3)], [], st_mm s3)) rfl (bi_Tif (fun hc => ?_) (fun hc => ?_))
      · have h := h.1 hc
        refine bi_Tr 6 (s' := (74, [(4, .int (0 : Int32)), (0, .ref 62), (1, .int y1), (3, .int y3)], [.int y3, .ref 64, .int y3, .ref 64], st_mm s3)) rfl ?_
        obtain ⟨hi, h⟩ := h
        refine bi_Tial rfl rfl rfl hi ?_
        refine bi_Tr 2 (s' := ((if (0 : Int32) = 0 then 86 else 80), [(4, .int (0 : Int32)), (0, .ref 62), (1, .int y1), (3, .int y3)], [.int (st_g s3 64 (y3).toNatClampNeg), .int y3, .ref 64], st_mm s3)) rfl (bi_Tif (fun hc => ?_) (fun hc => ?_))
        · have h := h.1 hc
          refine bi_Tr 2 (s' := (88, [(4, .int (0 : Int32)), (0, .ref 62), (1, .int y1), (3, .int y3)], [.int ((st_g s3 64 (y3).toNatClampNeg) ||| (0 : Int32)), .int y3, .ref 64], st_mm s3)) rfl ?_
          obtain ⟨hi, h⟩ := h
          refine bi_Tias rfl rfl hi ?_
          refine bi_Tr 5 (s' := ((if (0 : Int32) = 0 then 103 else 99), [(4, .int (0 : Int32)), (0, .ref 62), (1, .int y1), (3, .int y3)], [.int (st_g (st_p s3 64 (y3).toNatClampNeg ((st_g s3 64 (y3).toNatClampNeg) ||| (0 : Int32))) 62 3), .ref 62], st_mm (st_p s3 64 (y3).toNatClampNeg ((st_g s3 64 (y3).toNatClampNeg) ||| (0 : Int32))))) rfl (bi_Tif (fun hc => ?_) (fun hc => ?_))
          · have h := h.1 hc
            refine bi_Tr 7 (s' := (8, [(3, .int (y3 + (1 : Int32))), (4, .int (0 : Int32)), (0, .ref 62), (1, .int y1)], [], st_mm (st_p (st_p s3 64 (y3).toNatClampNeg ((st_g s3 64 (y3).toNatClampNeg) ||| (0 : Int32))) 62 3 ((st_g (st_p s3 64 (y3).toNatClampNeg ((st_g s3 64 (y3).toNatClampNeg) ||| (0 : Int32))) 62 3) ||| ((1 : Int32) <<< (y3 &&& 31)))))) rfl ?_
            exact bi_Tww h rfl rfl ⟨rfl, rfl, rfl, trivial⟩
          · have h := h.2 hc
            refine bi_Tr 6 (s' := (8, [(3, .int (y3 + (1 : Int32))), (4, .int (0 : Int32)), (0, .ref 62), (1, .int y1)], [], st_mm (st_p (st_p s3 64 (y3).toNatClampNeg ((st_g s3 64 (y3).toNatClampNeg) ||| (0 : Int32))) 62 3 ((st_g (st_p s3 64 (y3).toNatClampNeg ((st_g s3 64 (y3).toNatClampNeg) ||| (0 : Int32))) 62 3) ||| (0 : Int32))))) rfl ?_
            exact bi_Tww h rfl rfl ⟨rfl, rfl, rfl, trivial⟩
        · have h := h.2 hc
          refine bi_Tr 5 (s' := (88, [(4, .int (0 : Int32)), (0, .ref 62), (1, .int y1), (3, .int y3)], [.int ((st_g s3 64 (y3).toNatClampNeg) ||| ((1 : Int32) <<< (y1 &&& 31))), .int y3, .ref 64], st_mm s3)) rfl ?_
          obtain ⟨hi, h⟩ := h
          refine bi_Tias rfl rfl hi ?_
          refine bi_Tr 5 (s' := ((if (0 : Int32) = 0 then 103 else 99), [(4, .int (0 : Int32)), (0, .ref 62), (1, .int y1), (3, .int y3)], [.int (st_g (st_p s3 64 (y3).toNatClampNeg ((st_g s3 64 (y3).toNatClampNeg) ||| ((1 : Int32) <<< (y1 &&& 31)))) 62 3), .ref 62], st_mm (st_p s3 64 (y3).toNatClampNeg ((st_g s3 64 (y3).toNatClampNeg) ||| ((1 : Int32) <<< (y1 &&& 31)))))) rfl (bi_Tif (fun hc => ?_) (fun hc => ?_))
          · have h := h.1 hc
            refine bi_Tr 7 (s' := (8, [(3, .int (y3 + (1 : Int32))), (4, .int (0 : Int32)), (0, .ref 62), (1, .int y1)], [], st_mm (st_p (st_p s3 64 (y3).toNatClampNeg ((st_g s3 64 (y3).toNatClampNeg) ||| ((1 : Int32) <<< (y1 &&& 31)))) 62 3 ((st_g (st_p s3 64 (y3).toNatClampNeg ((st_g s3 64 (y3).toNatClampNeg) ||| ((1 : Int32) <<< (y1 &&& 31)))) 62 3) ||| ((1 : Int32) <<< (y3 &&& 31)))))) rfl ?_
            exact bi_Tww h rfl rfl ⟨rfl, rfl, rfl, trivial⟩
          · have h := h.2 hc
            refine bi_Tr 6 (s' := (8, [(3, .int (y3 + (1 : Int32))), (4, .int (0 : Int32)), (0, .ref 62), (1, .int y1)], [], st_mm (st_p (st_p s3 64 (y3).toNatClampNeg ((st_g s3 64 (y3).toNatClampNeg) ||| ((1 : Int32) <<< (y1 &&& 31)))) 62 3 ((st_g (st_p s3 64 (y3).toNatClampNeg ((st_g s3 64 (y3).toNatClampNeg) ||| ((1 : Int32) <<< (y1 &&& 31)))) 62 3) ||| (0 : Int32))))) rfl ?_
            exact bi_Tww h rfl rfl ⟨rfl, rfl, rfl, trivial⟩
      · have h := h.2 hc
        refine bi_Tr 7 (s' := (74, [(4, .int (1 : Int32)), (0, .ref 62), (1, .int y1), (3, .int y3)], [.int y3, .ref 64, .int y3, .ref 64], st_mm s3)) rfl ?_
        obtain ⟨hi, h⟩ := h
        refine bi_Tial rfl rfl rfl hi ?_
        refine bi_Tr 2 (s' := ((if (1 : Int32) = 0 then 86 else 80), [(4, .int (1 : Int32)), (0, .ref 62), (1, .int y1), (3, .int y3)], [.int (st_g s3 64 (y3).toNatClampNeg), .int y3, .ref 64], st_mm s3)) rfl (bi_Tif (fun hc => ?_) (fun hc => ?_))
        · have h := h.1 hc
          refine bi_Tr 2 (s' := (88, [(4, .int (1 : Int32)), (0, .ref 62), (1, .int y1), (3, .int y3)], [.int ((st_g s3 64 (y3).toNatClampNeg) ||| (0 : Int32)), .int y3, .ref 64], st_mm s3)) rfl ?_
          obtain ⟨hi, h⟩ := h
          refine bi_Tias rfl rfl hi ?_
          refine bi_Tr 5 (s' := ((if (1 : Int32) = 0 then 103 else 99), [(4, .int (1 : Int32)), (0, .ref 62), (1, .int y1), (3, .int y3)], [.int (st_g (st_p s3 64 (y3).toNatClampNeg ((st_g s3 64 (y3).toNatClampNeg) ||| (0 : Int32))) 62 3), .ref 62], st_mm (st_p s3 64 (y3).toNatClampNeg ((st_g s3 64 (y3).toNatClampNeg) ||| (0 : Int32))))) rfl (bi_Tif (fun hc => ?_) (fun hc => ?_))
          · have h := h.1 hc
            refine bi_Tr 7 (s' := (8, [(3, .int (y3 + (1 : Int32))), (4, .int (1 : Int32)), (0, .ref 62), (1, .int y1)], [], st_mm (st_p (st_p s3 64 (y3).toNatClampNeg ((st_g s3 64 (y3).toNatClampNeg) ||| (0 : Int32))) 62 3 ((st_g (st_p s3 64 (y3).toNatClampNeg ((st_g s3 64 (y3).toNatClampNeg) ||| (0 : Int32))) 62 3) ||| ((1 : Int32) <<< (y3 &&& 31)))))) rfl ?_
            exact bi_Tww h rfl rfl ⟨rfl, rfl, rfl, trivial⟩
          · have h := h.2 hc
            refine bi_Tr 6 (s' := (8, [(3, .int (y3 + (1 : Int32))), (4, .int (1 : Int32)), (0, .ref 62), (1, .int y1)], [], st_mm (st_p (st_p s3 64 (y3).toNatClampNeg ((st_g s3 64 (y3).toNatClampNeg) ||| (0 : Int32))) 62 3 ((st_g (st_p s3 64 (y3).toNatClampNeg ((st_g s3 64 (y3).toNatClampNeg) ||| (0 : Int32))) 62 3) ||| (0 : Int32))))) rfl ?_
            exact bi_Tww h rfl rfl ⟨rfl, rfl, rfl, trivial⟩
        · have h := h.2 hc
          refine bi_Tr 5 (s' := (88, [(4, .int (1 : Int32)), (0, .ref 62), (1, .int y1), (3, .int y3)], [.int ((st_g s3 64 (y3).toNatClampNeg) ||| ((1 : Int32) <<< (y1 &&& 31))), .int y3, .ref 64], st_mm s3)) rfl ?_
          obtain ⟨hi, h⟩ := h
          refine bi_Tias rfl rfl hi ?_
          refine bi_Tr 5 (s' := ((if (1 : Int32) = 0 then 103 else 99), [(4, .int (1 : Int32)), (0, .ref 62), (1, .int y1), (3, .int y3)], [.int (st_g (st_p s3 64 (y3).toNatClampNeg ((st_g s3 64 (y3).toNatClampNeg) ||| ((1 : Int32) <<< (y1 &&& 31)))) 62 3), .ref 62], st_mm (st_p s3 64 (y3).toNatClampNeg ((st_g s3 64 (y3).toNatClampNeg) ||| ((1 : Int32) <<< (y1 &&& 31)))))) rfl (bi_Tif (fun hc => ?_) (fun hc => ?_))
          · have h := h.1 hc
            refine bi_Tr 7 (s' := (8, [(3, .int (y3 + (1 : Int32))), (4, .int (1 : Int32)), (0, .ref 62), (1, .int y1)], [], st_mm (st_p (st_p s3 64 (y3).toNatClampNeg ((st_g s3 64 (y3).toNatClampNeg) ||| ((1 : Int32) <<< (y1 &&& 31)))) 62 3 ((st_g (st_p s3 64 (y3).toNatClampNeg ((st_g s3 64 (y3).toNatClampNeg) ||| ((1 : Int32) <<< (y1 &&& 31)))) 62 3) ||| ((1 : Int32) <<< (y3 &&& 31)))))) rfl ?_
            exact bi_Tww h rfl rfl ⟨rfl, rfl, rfl, trivial⟩
          · have h := h.2 hc
            refine bi_Tr 6 (s' := (8, [(3, .int (y3 + (1 : Int32))), (4, .int (1 : Int32)), (0, .ref 62), (1, .int y1)], [], st_mm (st_p (st_p s3 64 (y3).toNatClampNeg ((st_g s3 64 (y3).toNatClampNeg) ||| ((1 : Int32) <<< (y1 &&& 31)))) 62 3 ((st_g (st_p s3 64 (y3).toNatClampNeg ((st_g s3 64 (y3).toNatClampNeg) ||| ((1 : Int32) <<< (y1 &&& 31)))) 62 3) ||| (0 : Int32))))) rfl ?_
            exact bi_Tww h rfl rfl ⟨rfl, rfl, rfl, trivial⟩
    · have h := h.2 hc
      refine bi_Tr 3 (s' := ((if r2 = (1 : Int32) then 65 else 61), [(0, .ref 62), (1, .int y1), (3, .int y3)], [], st_mm s3)) rfl (bi_Tif (fun hc => ?_) (fun hc => ?_))
      · have h := h.1 hc
        refine bi_Tr 6 (s' := (74, [(4, .int (0 : Int32)), (0, .ref 62), (1, .int y1), (3, .int y3)], [.int y3, .ref 64, .int y3, .ref 64], st_mm s3)) rfl ?_
        obtain ⟨hi, h⟩ := h
        refine bi_Tial rfl rfl rfl hi ?_
        refine bi_Tr 2 (s' := ((if (0 : Int32) = 0 then 86 else 80), [(4, .int (0 : Int32)), (0, .ref 62), (1, .int y1), (3, .int y3)], [.int (st_g s3 64 (y3).toNatClampNeg), .int y3, .ref 64], st_mm s3)) rfl (bi_Tif (fun hc => ?_) (fun hc => ?_))
        · have h := h.1 hc
          refine bi_Tr 2 (s' := (88, [(4, .int (0 : Int32)), (0, .ref 62), (1, .int y1), (3, .int y3)], [.int ((st_g s3 64 (y3).toNatClampNeg) ||| (0 : Int32)), .int y3, .ref 64], st_mm s3)) rfl ?_
          obtain ⟨hi, h⟩ := h
          refine bi_Tias rfl rfl hi ?_
          refine bi_Tr 5 (s' := ((if (0 : Int32) = 0 then 103 else 99), [(4, .int (0 : Int32)), (0, .ref 62), (1, .int y1), (3, .int y3)], [.int (st_g (st_p s3 64 (y3).toNatClampNeg ((st_g s3 64 (y3).toNatClampNeg) ||| (0 : Int32))) 62 3), .ref 62], st_mm (st_p s3 64 (y3).toNatClampNeg ((st_g s3 64 (y3).toNatClampNeg) ||| (0 : Int32))))) rfl (bi_Tif (fun hc => ?_) (fun hc => ?_))
          · have h := h.1 hc
            refine bi_Tr 7 (s' := (8, [(3, .int (y3 + (1 : Int32))), (4, .int (0 : Int32)), (0, .ref 62), (1, .int y1)], [], st_mm (st_p (st_p s3 64 (y3).toNatClampNeg ((st_g s3 64 (y3).toNatClampNeg) ||| (0 : Int32))) 62 3 ((st_g (st_p s3 64 (y3).toNatClampNeg ((st_g s3 64 (y3).toNatClampNeg) ||| (0 : Int32))) 62 3) ||| ((1 : Int32) <<< (y3 &&& 31)))))) rfl ?_
            exact bi_Tww h rfl rfl ⟨rfl, rfl, rfl, trivial⟩
          · have h := h.2 hc
            refine bi_Tr 6 (s' := (8, [(3, .int (y3 + (1 : Int32))), (4, .int (0 : Int32)), (0, .ref 62), (1, .int y1)], [], st_mm (st_p (st_p s3 64 (y3).toNatClampNeg ((st_g s3 64 (y3).toNatClampNeg) ||| (0 : Int32))) 62 3 ((st_g (st_p s3 64 (y3).toNatClampNeg ((st_g s3 64 (y3).toNatClampNeg) ||| (0 : Int32))) 62 3) ||| (0 : Int32))))) rfl ?_
            exact bi_Tww h rfl rfl ⟨rfl, rfl, rfl, trivial⟩
        · have h := h.2 hc
          refine bi_Tr 5 (s' := (88, [(4, .int (0 : Int32)), (0, .ref 62), (1, .int y1), (3, .int y3)], [.int ((st_g s3 64 (y3).toNatClampNeg) ||| ((1 : Int32) <<< (y1 &&& 31))), .int y3, .ref 64], st_mm s3)) rfl ?_
          obtain ⟨hi, h⟩ := h
          refine bi_Tias rfl rfl hi ?_
          refine bi_Tr 5 (s' := ((if (0 : Int32) = 0 then 103 else 99), [(4, .int (0 : Int32)), (0, .ref 62), (1, .int y1), (3, .int y3)], [.int (st_g (st_p s3 64 (y3).toNatClampNeg ((st_g s3 64 (y3).toNatClampNeg) ||| ((1 : Int32) <<< (y1 &&& 31)))) 62 3), .ref 62], st_mm (st_p s3 64 (y3).toNatClampNeg ((st_g s3 64 (y3).toNatClampNeg) ||| ((1 : Int32) <<< (y1 &&& 31)))))) rfl (bi_Tif (fun hc => ?_) (fun hc => ?_))
          · have h := h.1 hc
            refine bi_Tr 7 (s' := (8, [(3, .int (y3 + (1 : Int32))), (4, .int (0 : Int32)), (0, .ref 62), (1, .int y1)], [], st_mm (st_p (st_p s3 64 (y3).toNatClampNeg ((st_g s3 64 (y3).toNatClampNeg) ||| ((1 : Int32) <<< (y1 &&& 31)))) 62 3 ((st_g (st_p s3 64 (y3).toNatClampNeg ((st_g s3 64 (y3).toNatClampNeg) ||| ((1 : Int32) <<< (y1 &&& 31)))) 62 3) ||| ((1 : Int32) <<< (y3 &&& 31)))))) rfl ?_
            exact bi_Tww h rfl rfl ⟨rfl, rfl, rfl, trivial⟩
          · have h := h.2 hc
            refine bi_Tr 6 (s' := (8, [(3, .int (y3 + (1 : Int32))), (4, .int (0 : Int32)), (0, .ref 62), (1, .int y1)], [], st_mm (st_p (st_p s3 64 (y3).toNatClampNeg ((st_g s3 64 (y3).toNatClampNeg) ||| ((1 : Int32) <<< (y1 &&& 31)))) 62 3 ((st_g (st_p s3 64 (y3).toNatClampNeg ((st_g s3 64 (y3).toNatClampNeg) ||| ((1 : Int32) <<< (y1 &&& 31)))) 62 3) ||| (0 : Int32))))) rfl ?_
            exact bi_Tww h rfl rfl ⟨rfl, rfl, rfl, trivial⟩
      · have h := h.2 hc
        refine bi_Tr 7 (s' := (74, [(4, .int (1 : Int32)), (0, .ref 62), (1, .int y1), (3, .int y3)], [.int y3, .ref 64, .int y3, .ref 64], st_mm s3)) rfl ?_
        obtain ⟨hi, h⟩ := h
        refine bi_Tial rfl rfl rfl hi ?_
        refine bi_Tr 2 (s' := ((if (1 : Int32) = 0 then 86 else 80), [(4, .int (1 : Int32)), (0, .ref 62), (1, .int y1), (3, .int y3)], [.int (st_g s3 64 (y3).toNatClampNeg), .int y3, .ref 64], st_mm s3)) rfl (bi_Tif (fun hc => ?_) (fun hc => ?_))
        · have h := h.1 hc
          refine bi_Tr 2 (s' := (88, [(4, .int (1 : Int32)), (0, .ref 62), (1, .int y1), (3, .int y3)], [.int ((st_g s3 64 (y3).toNatClampNeg) ||| (0 : Int32)), .int y3, .ref 64], st_mm s3)) rfl ?_
          obtain ⟨hi, h⟩ := h
          refine bi_Tias rfl rfl hi ?_
          refine bi_Tr 5 (s' := ((if (1 : Int32) = 0 then 103 else 99), [(4, .int (1 : Int32)), (0, .ref 62), (1, .int y1), (3, .int y3)], [.int (st_g (st_p s3 64 (y3).toNatClampNeg ((st_g s3 64 (y3).toNatClampNeg) ||| (0 : Int32))) 62 3), .ref 62], st_mm (st_p s3 64 (y3).toNatClampNeg ((st_g s3 64 (y3).toNatClampNeg) ||| (0 : Int32))))) rfl (bi_Tif (fun hc => ?_) (fun hc => ?_))
          · have h := h.1 hc
            refine bi_Tr 7 (s' := (8, [(3, .int (y3 + (1 : Int32))), (4, .int (1 : Int32)), (0, .ref 62), (1, .int y1)], [], st_mm (st_p (st_p s3 64 (y3).toNatClampNeg ((st_g s3 64 (y3).toNatClampNeg) ||| (0 : Int32))) 62 3 ((st_g (st_p s3 64 (y3).toNatClampNeg ((st_g s3 64 (y3).toNatClampNeg) ||| (0 : Int32))) 62 3) ||| ((1 : Int32) <<< (y3 &&& 31)))))) rfl ?_
            exact bi_Tww h rfl rfl ⟨rfl, rfl, rfl, trivial⟩
          · have h := h.2 hc
            refine bi_Tr 6 (s' := (8, [(3, .int (y3 + (1 : Int32))), (4, .int (1 : Int32)), (0, .ref 62), (1, .int y1)], [], st_mm (st_p (st_p s3 64 (y3).toNatClampNeg ((st_g s3 64 (y3).toNatClampNeg) ||| (0 : Int32))) 62 3 ((st_g (st_p s3 64 (y3).toNatClampNeg ((st_g s3 64 (y3).toNatClampNeg) ||| (0 : Int32))) 62 3) ||| (0 : Int32))))) rfl ?_
            exact bi_Tww h rfl rfl ⟨rfl, rfl, rfl, trivial⟩
        · have h := h.2 hc
          refine bi_Tr 5 (s' := (88, [(4, .int (1 : Int32)), (0, .ref 62), (1, .int y1), (3, .int y3)], [.int ((st_g s3 64 (y3).toNatClampNeg) ||| ((1 : Int32) <<< (y1 &&& 31))), .int y3, .ref 64], st_mm s3)) rfl ?_
          obtain ⟨hi, h⟩ := h
          refine bi_Tias rfl rfl hi ?_
          refine bi_Tr 5 (s' := ((if (1 : Int32) = 0 then 103 else 99), [(4, .int (1 : Int32)), (0, .ref 62), (1, .int y1), (3, .int y3)], [.int (st_g (st_p s3 64 (y3).toNatClampNeg ((st_g s3 64 (y3).toNatClampNeg) ||| ((1 : Int32) <<< (y1 &&& 31)))) 62 3), .ref 62], st_mm (st_p s3 64 (y3).toNatClampNeg ((st_g s3 64 (y3).toNatClampNeg) ||| ((1 : Int32) <<< (y1 &&& 31)))))) rfl (bi_Tif (fun hc => ?_) (fun hc => ?_))
          · have h := h.1 hc
            refine bi_Tr 7 (s' := (8, [(3, .int (y3 + (1 : Int32))), (4, .int (1 : Int32)), (0, .ref 62), (1, .int y1)], [], st_mm (st_p (st_p s3 64 (y3).toNatClampNeg ((st_g s3 64 (y3).toNatClampNeg) ||| ((1 : Int32) <<< (y1 &&& 31)))) 62 3 ((st_g (st_p s3 64 (y3).toNatClampNeg ((st_g s3 64 (y3).toNatClampNeg) ||| ((1 : Int32) <<< (y1 &&& 31)))) 62 3) ||| ((1 : Int32) <<< (y3 &&& 31)))))) rfl ?_
            exact bi_Tww h rfl rfl ⟨rfl, rfl, rfl, trivial⟩
          · have h := h.2 hc
            refine bi_Tr 6 (s' := (8, [(3, .int (y3 + (1 : Int32))), (4, .int (1 : Int32)), (0, .ref 62), (1, .int y1)], [], st_mm (st_p (st_p s3 64 (y3).toNatClampNeg ((st_g s3 64 (y3).toNatClampNeg) ||| ((1 : Int32) <<< (y1 &&& 31)))) 62 3 ((st_g (st_p s3 64 (y3).toNatClampNeg ((st_g s3 64 (y3).toNatClampNeg) ||| ((1 : Int32) <<< (y1 &&& 31)))) 62 3) ||| (0 : Int32))))) rfl ?_
            exact bi_Tww h rfl rfl ⟨rfl, rfl, rfl, trivial⟩
/-- PolicyRows$Insight.noteTurns(II)V -/
theorem en_X1_noteTurns {X : bi_X} {d : Nat} {K : bi_St → Prop} {E : Nat → bi_St → Prop} {s : bi_St} {x0 : Int32} {x1 : Int32}  (h : ((x1 = (2 : Int32)) → at_X1_noteTurns_8 X (d + 1) K E s (x0) ((0 : Int32))) ∧ (¬ (x1 = (2 : Int32)) → K s)) : cV X (d + 1) 22 [.ref 62, .int x0, .int x1] s K E := by
  show bi_T _ _ _ _ _
  refine bi_Tr 3 (s' := ((if x1 = (2 : Int32) then 6 else 5), [(0, .ref 62), (1, .int x0), (2, .int x1)], [], st_mm s)) rfl (bi_Tif (fun hc => ?_) (fun hc => ?_))
  · have h := h.1 hc
    refine bi_Tr 2 (s' := (8, [(3, .int (0 : Int32)), (0, .ref 62), (1, .int x0), (2, .int x1)], [], st_mm s)) rfl ?_
    exact bi_Tww h rfl rfl ⟨rfl, rfl, rfl, trivial⟩
  · have h := h.2 hc
    exact bi_Tv rfl rfl (Or.inl ⟨_, rfl, h⟩)
/-- PolicyRows.feed(IIIII)I -/
theorem en_X11_feed {X : bi_X} {d : Nat} {K : Int32 → bi_St → Prop} {E : Nat → bi_St → Prop} {s : bi_St} {x0 : Int32} {x1 : Int32} {x2 : Int32} {x3 : Int32} {x4 : Int32}  (h : ((((st_g s 1 1) + (20 : Int32)) ≤ (700 : Int32)) → cV X d 92 [.ref 1, .int x0] s (fun (s1 : bi_St) => cV X d 92 [.ref 1, .int x1] s1 (fun (s2 : bi_St) => cV X d 92 [.ref 1, .int x2] s2 (fun (s3 : bi_St) => cV X d 92 [.ref 1, .int x3] s3 (fun (s4 : bi_St) => cV X d 92 [.ref 1, .int x4] s4 (fun (s5 : bi_St) => K (st_g s5 1 1) s5) (fun _ _ => False)) (fun _ _ => False)) (fun _ _ => False)) (fun _ _ => False)) (fun _ _ => False)) ∧ (¬ (((st_g s 1 1) + (20 : Int32)) ≤ (700 : Int32)) → K (-1 : Int32) s)) : cI X (d + 1) 123 [.ref 0, .int x0, .int x1, .int x2, .int x3, .int x4] s K E := by
  show bi_T _ _ _ _ _
  refine bi_Tr 7 (s' := ((if ((st_g s 1 1) + (20 : Int32)) ≤ (700 : Int32) then 18 else 16), [(0, .ref 0), (1, .int x0), (2, .int x1), (3, .int x2), (4, .int x3), (5, .int x4)], [], st_mm s)) rfl (bi_Tif (fun hc => ?_) (fun hc => ?_))
  · have h := h.1 hc
    refine bi_Tr 3 (s' := (23, [(0, .ref 0), (1, .int x0), (2, .int x1), (3, .int x2), (4, .int x3), (5, .int x4)], [.int x0, .ref 1], st_mm s)) rfl ?_
    refine bi_TcV (as := [.ref 1, .int x0]) rfl rfl ?_
    refine cV.mono h (fun s1 h => ?_) (fun _ _ h => h.elim)
    refine bi_Tr 3 (s' := (31, [(0, .ref 0), (1, .int x0), (2, .int x1), (3, .int x2), (4, .int x3), (5, .int x4)], [.int x1, .ref 1], st_mm s1)) rfl ?_
    refine bi_TcV (as := [.ref 1, .int x1]) rfl rfl ?_
    refine cV.mono h (fun s2 h => ?_) (fun _ _ h => h.elim)
    refine bi_Tr 3 (s' := (39, [(0, .ref 0), (1, .int x0), (2, .int x1), (3, .int x2), (4, .int x3), (5, .int x4)], [.int x2, .ref 1], st_mm s2)) rfl ?_
    refine bi_TcV (as := [.ref 1, .int x2]) rfl rfl ?_
    refine cV.mono h (fun s3 h => ?_) (fun _ _ h => h.elim)
    refine bi_Tr 3 (s' := (48, [(0, .ref 0), (1, .int x0), (2, .int x1), (3, .int x2), (4, .int x3), (5, .int x4)], [.int x3, .ref 1], st_mm s3)) rfl ?_
    refine bi_TcV (as := [.ref 1, .int x3]) rfl rfl ?_
    refine cV.mono h (fun s4 h => ?_) (fun _ _ h => h.elim)
    refine bi_Tr 3 (s' := (57, [(0, .ref 0), (1, .int x0), (2, .int x1), (3, .int x2), (4, .int x3), (5, .int x4)], [.int x4, .ref 1], st_mm s4)) rfl ?_
    refine bi_TcV (as := [.ref 1, .int x4]) rfl rfl ?_
    refine cV.mono h (fun s5 h => ?_) (fun _ _ h => h.elim)
    refine bi_Tr 3 (s' := (67, [(0, .ref 0), (1, .int x0), (2, .int x1), (3, .int x2), (4, .int x3), (5, .int x4)], [.int (st_g s5 1 1)], st_mm s5)) rfl ?_
    exact bi_Tv rfl rfl (Or.inl ⟨_, _, rfl, h⟩)
  · have h := h.2 hc
    refine bi_Tr 1 (s' := (17, [(0, .ref 0), (1, .int x0), (2, .int x1), (3, .int x2), (4, .int x3), (5, .int x4)], [.int (-1 : Int32)], st_mm s)) rfl ?_
    exact bi_Tv rfl rfl (Or.inl ⟨_, _, rfl, h⟩)
/-- PolicyRows.tell(I)I -/
theorem en_X11_tell {X : bi_X} {d : Nat} {K : Int32 → bi_St → Prop} {E : Nat → bi_St → Prop} {s : bi_St} {x0 : Int32}  (h : cV X d 153 [.ref 0, .int x0] s (fun (s1 : bi_St) => st_isB (st_gp s1 1) ∧ (st_isS (st_gp s1 3) ∧ (cI X d 104 [.ref 43, .int x0, .ref (st_gp s1 1), .ref (st_gp s1 3)] s1 (fun (r2 : Int32) (s2 : bi_St) => cV X d 152 [.ref 0, .int r2] s2 (fun (s3 : bi_St) => ((¬ r2 = 0) → st_isB (st_gp s3 0) ∧ (st_isB (st_gp s3 1) ∧ (st_isS (st_gp (st_pp (st_pp s3 0 (st_gp s3 1)) 1 (st_gp s3 0)) 2) ∧ (st_isS (st_gp (st_pp (st_pp s3 0 (st_gp s3 1)) 1 (st_gp s3 0)) 3) ∧ (K (0 : Int32) (st_p (st_p (st_pp (st_pp (st_pp (st_pp s3 0 (st_gp s3 1)) 1 (st_gp s3 0)) 2 (st_gp (st_pp (st_pp s3 0 (st_gp s3 1)) 1 (st_gp s3 0)) 3)) 3 (st_gp (st_pp (st_pp s3 0 (st_gp s3 1)) 1 (st_gp s3 0)) 2)) 65 1 (0 : Int32)) 0 14 (0 : Int32))))))) ∧ (¬ (¬ r2 = 0) → K (st_g s3 1 9) s3)) (fun _ _ => False)) (fun _ _ => False)))) E) : cI X (d + 1) 124 [.ref 0, .int x0] s K E := by
  show bi_T _ _ _ _ _
  refine bi_Tr 2 (s' := (2, [(0, .ref 0), (1, .int x0)], [.int x0, .ref 0], st_mm s)) rfl ?_
  refine bi_TcV (as := [.ref 0, .int x0]) rfl rfl ?_
  refine cV.mono h (fun s1 h => ?_) (fun e t h => Or.inr ⟨e, t, rfl, h⟩)
  obtain ⟨h0q0_11, h⟩ := h
  obtain ⟨h23q0_15, h⟩ := h
  refine bi_Tr 7 (s' := (18, [(0, .ref 0), (1, .int x0)], [.ref (st_gp s1 3), .ref (st_gp s1 1), .int x0, .ref 43], st_mm s1)) rfl ?_
  refine bi_TcI (as := [.ref 43, .int x0, .ref (st_gp s1 1), .ref (st_gp s1 3)]) rfl rfl ?_
  refine cI.mono h (fun r2 s2 h => ?_) (fun _ _ h => h.elim)
  refine bi_Tr 3 (s' := (24, [(2, .int r2), (0, .ref 0), (1, .int x0)], [.int r2, .ref 0], st_mm s2)) rfl ?_
  refine bi_TcV (as := [.ref 0, .int r2]) rfl rfl ?_
  refine cV.mono h (fun s3 h => ?_) (fun _ _ h => h.elim)
  refine bi_Tr 2 (s' := ((if ¬ r2 = 0 then 39 else 31), [(2, .int r2), (0, .ref 0), (1, .int x0)], [], st_mm s3)) rfl (bi_Tif (fun hc => ?_) (fun hc => ?_))
  · have h := h.1 hc
    obtain ⟨h0q1_40, h⟩ := h
    obtain ⟨h23q1_46, h⟩ := h
    refine bi_Tr 6 (s' := (49, [(3, .ref (st_gp s3 0)), (2, .int r2), (0, .ref 0), (1, .int x0)], [.ref (st_gp s3 1), .ref 0], st_mm s3)) rfl ?_
    refine bi_Tpr rfl rfl rfl rfl rfl rfl ?_
    refine bi_Tr 2 (s' := (54, [(3, .ref (st_gp s3 0)), (2, .int r2), (0, .ref 0), (1, .int x0)], [.ref (st_gp s3 0), .ref 0], st_mm (st_pp s3 0 (st_gp s3 1)))) rfl ?_
    refine bi_Tpr rfl rfl rfl rfl rfl rfl ?_
    obtain ⟨h46q1_58, h⟩ := h
    obtain ⟨h115q1_65, h⟩ := h
    refine bi_Tr 6 (s' := (68, [(4, .ref (st_gp (st_pp (st_pp s3 0 (st_gp s3 1)) 1 (st_gp s3 0)) 2)), (3, .ref (st_gp s3 0)), (2, .int r2), (0, .ref 0), (1, .int x0)], [.ref (st_gp (st_pp (st_pp s3 0 (st_gp s3 1)) 1 (st_gp s3 0)) 3), .ref 0], st_mm (st_pp (st_pp s3 0 (st_gp s3 1)) 1 (st_gp s3 0)))) rfl ?_
    refine bi_Tpr rfl rfl rfl rfl rfl rfl ?_
    refine bi_Tr 2 (s' := (74, [(4, .ref (st_gp (st_pp (st_pp s3 0 (st_gp s3 1)) 1 (st_gp s3 0)) 2)), (3, .ref (st_gp s3 0)), (2, .int r2), (0, .ref 0), (1, .int x0)], [.ref (st_gp (st_pp (st_pp s3 0 (st_gp s3 1)) 1 (st_gp s3 0)) 2), .ref 0], st_mm (st_pp (st_pp (st_pp s3 0 (st_gp s3 1)) 1 (st_gp s3 0)) 2 (st_gp (st_pp (st_pp s3 0 (st_gp s3 1)) 1 (st_gp s3 0)) 3)))) rfl ?_
    refine bi_Tpr rfl rfl rfl rfl rfl rfl ?_
    refine bi_Tr 3 (s' := (82, [(4, .ref (st_gp (st_pp (st_pp s3 0 (st_gp s3 1)) 1 (st_gp s3 0)) 2)), (3, .ref (st_gp s3 0)), (2, .int r2), (0, .ref 0), (1, .int x0)], [.int (0 : Int32), .ref 65], st_mm (st_pp (st_pp (st_pp (st_pp s3 0 (st_gp s3 1)) 1 (st_gp s3 0)) 2 (st_gp (st_pp (st_pp s3 0 (st_gp s3 1)) 1 (st_gp s3 0)) 3)) 3 (st_gp (st_pp (st_pp s3 0 (st_gp s3 1)) 1 (st_gp s3 0)) 2)))) rfl ?_
    refine bi_Tpz rfl rfl rfl rfl rfl rfl ?_
    refine bi_Tr 2 (s' := (87, [(4, .ref (st_gp (st_pp (st_pp s3 0 (st_gp s3 1)) 1 (st_gp s3 0)) 2)), (3, .ref (st_gp s3 0)), (2, .int r2), (0, .ref 0), (1, .int x0)], [.int (0 : Int32), .ref 0], st_mm (st_p (st_pp (st_pp (st_pp (st_pp s3 0 (st_gp s3 1)) 1 (st_gp s3 0)) 2 (st_gp (st_pp (st_pp s3 0 (st_gp s3 1)) 1 (st_gp s3 0)) 3)) 3 (st_gp (st_pp (st_pp s3 0 (st_gp s3 1)) 1 (st_gp s3 0)) 2)) 65 1 (0 : Int32)))) rfl ?_
    refine bi_Tpz rfl rfl rfl rfl rfl rfl ?_
    refine bi_Tr 1 (s' := (91, [(4, .ref (st_gp (st_pp (st_pp s3 0 (st_gp s3 1)) 1 (st_gp s3 0)) 2)), (3, .ref (st_gp s3 0)), (2, .int r2), (0, .ref 0), (1, .int x0)], [.int (0 : Int32)], st_mm (st_p (st_p (st_pp (st_pp (st_pp (st_pp s3 0 (st_gp s3 1)) 1 (st_gp s3 0)) 2 (st_gp (st_pp (st_pp s3 0 (st_gp s3 1)) 1 (st_gp s3 0)) 3)) 3 (st_gp (st_pp (st_pp s3 0 (st_gp s3 1)) 1 (st_gp s3 0)) 2)) 65 1 (0 : Int32)) 0 14 (0 : Int32)))) rfl ?_
    exact bi_Tv rfl rfl (Or.inl ⟨_, _, rfl, h⟩)
  · have h := h.2 hc
    refine bi_Tr 3 (s' := (38, [(2, .int r2), (0, .ref 0), (1, .int x0)], [.int (st_g s3 1 9)], st_mm s3)) rfl ?_
    exact bi_Tv rfl rfl (Or.inl ⟨_, _, rfl, h⟩)
/-- PolicyRows.query(III)I -/
theorem en_X11_query {X : bi_X} {d : Nat} {K : Int32 → bi_St → Prop} {E : Nat → bi_St → Prop} {s : bi_St} {x0 : Int32} {x1 : Int32} {x2 : Int32}  (h : cV X d 154 [.ref 0, .int x0] s (fun (s1 : bi_St) => ((x1 = (-1 : Int32)) → cV X d 153 [.ref 0, .int x2] s1 (fun (s2 : bi_St) => st_isB (st_gp s2 0) ∧ (cI X d 103 [.ref 43, .int x2, .ref (st_gp s2 0), .ref 3] s2 (fun (r3 : Int32) (s3 : bi_St) => cV X d 152 [.ref 0, .int r3] s3 (fun (s4 : bi_St) => ((¬ r3 = 0) → st_isB (st_gp s4 0) ∧ (st_isS (st_gp s4 2) ∧ (cV X d 24 [.ref 57, .ref (st_gp s4 0), .ref (st_gp s4 2)] s4 (fun (s5 : bi_St) => cV X d 40 [.ref 65, .ref 57, .ref 3, .int x0, .int x1] s5 (fun (s6 : bi_St) => cV X d 44 [.ref 65] s6 (fun (s7 : bi_St) => cV X d 46 [.ref 65, .ref 57, .ref 3] s7 (fun (s8 : bi_St) => K (0 : Int32) s8) (fun _ _ => False)) (fun _ _ => False)) (fun _ _ => False)) (fun _ _ => False)))) ∧ (¬ (¬ r3 = 0) → K (st_g s4 1 9) s4)) (fun _ _ => False)) (fun _ _ => False))) E) ∧ (¬ (x1 = (-1 : Int32)) → cV X d 155 [.ref 0, .int x1] s1 (fun (s9 : bi_St) => cV X d 153 [.ref 0, .int x2] s9 (fun (s10 : bi_St) => st_isB (st_gp s10 0) ∧ (cI X d 103 [.ref 43, .int x2, .ref (st_gp s10 0), .ref 3] s10 (fun (r11 : Int32) (s11 : bi_St) => cV X d 152 [.ref 0, .int r11] s11 (fun (s12 : bi_St) => ((¬ r11 = 0) → st_isB (st_gp s12 0) ∧ (st_isS (st_gp s12 2) ∧ (cV X d 24 [.ref 57, .ref (st_gp s12 0), .ref (st_gp s12 2)] s12 (fun (s13 : bi_St) => cV X d 40 [.ref 65, .ref 57, .ref 3, .int x0, .int x1] s13 (fun (s14 : bi_St) => cV X d 44 [.ref 65] s14 (fun (s15 : bi_St) => cV X d 46 [.ref 65, .ref 57, .ref 3] s15 (fun (s16 : bi_St) => K (0 : Int32) s16) (fun _ _ => False)) (fun _ _ => False)) (fun _ _ => False)) (fun _ _ => False)))) ∧ (¬ (¬ r11 = 0) → K (st_g s12 1 9) s12)) (fun _ _ => False)) (fun _ _ => False))) E) E)) E) : cI X (d + 1) 125 [.ref 0, .int x0, .int x1, .int x2] s K E := by
  show bi_T _ _ _ _ _
  refine bi_Tr 2 (s' := (2, [(0, .ref 0), (1, .int x0), (2, .int x1), (3, .int x2)], [.int x0, .ref 0], st_mm s)) rfl ?_
  refine bi_TcV (as := [.ref 0, .int x0]) rfl rfl ?_
  refine cV.mono h (fun s1 h => ?_) (fun e t h => Or.inr ⟨e, t, rfl, h⟩)
  refine bi_Tr 3 (s' := ((if x1 = (-1 : Int32) then 15 else 10), [(0, .ref 0), (1, .int x0), (2, .int x1), (3, .int x2)], [], st_mm s1)) rfl (bi_Tif (fun hc => ?_) (fun hc => ?_))
  · have h := h.1 hc
    refine bi_Tr 2 (s' := (17, [(0, .ref 0), (1, .int x0), (2, .int x1), (3, .int x2)], [.int x2, .ref 0], st_mm s1)) rfl ?_
    refine bi_TcV (as := [.ref 0, .int x2]) rfl rfl ?_
    refine cV.mono h (fun s2 h => ?_) (fun e t h => Or.inr ⟨e, t, rfl, h⟩)
    obtain ⟨h0q1_26, h⟩ := h
    refine bi_Tr 7 (s' := (33, [(0, .ref 0), (1, .int x0), (2, .int x1), (3, .int x2)], [.ref 3, .ref (st_gp s2 0), .int x2, .ref 43], st_mm s2)) rfl ?_
    refine bi_TcI (as := [.ref 43, .int x2, .ref (st_gp s2 0), .ref 3]) rfl rfl ?_
    refine cI.mono h (fun r3 s3 h => ?_) (fun _ _ h => h.elim)
    refine bi_Tr 3 (s' := (41, [(4, .int r3), (0, .ref 0), (1, .int x0), (2, .int x1), (3, .int x2)], [.int r3, .ref 0], st_mm s3)) rfl ?_
    refine bi_TcV (as := [.ref 0, .int r3]) rfl rfl ?_
    refine cV.mono h (fun s4 h => ?_) (fun _ _ h => h.elim)
    refine bi_Tr 2 (s' := ((if ¬ r3 = 0 then 57 else 49), [(4, .int r3), (0, .ref 0), (1, .int x0), (2, .int x1), (3, .int x2)], [], st_mm s4)) rfl (bi_Tif (fun hc => ?_) (fun hc => ?_))
    · have h := h.1 hc
      obtain ⟨h0q2_62, h⟩ := h
      obtain ⟨h23q2_66, h⟩ := h
      refine bi_Tr 6 (s' := (69, [(4, .int r3), (0, .ref 0), (1, .int x0), (2, .int x1), (3, .int x2)], [.ref (st_gp s4 2), .ref (st_gp s4 0), .ref 57], st_mm s4)) rfl ?_
      refine bi_TcV (as := [.ref 57, .ref (st_gp s4 0), .ref (st_gp s4 2)]) rfl rfl ?_
      refine cV.mono h (fun s5 h => ?_) (fun _ _ h => h.elim)
      refine bi_Tr 8 (s' := (86, [(4, .int r3), (0, .ref 0), (1, .int x0), (2, .int x1), (3, .int x2)], [.int x1, .int x0, .ref 3, .ref 57, .ref 65], st_mm s5)) rfl ?_
      refine bi_TcV (as := [.ref 65, .ref 57, .ref 3, .int x0, .int x1]) rfl rfl ?_
      refine cV.mono h (fun s6 h => ?_) (fun _ _ h => h.elim)
      refine bi_Tr 2 (s' := (93, [(4, .int r3), (0, .ref 0), (1, .int x0), (2, .int x1), (3, .int x2)], [.ref 65], st_mm s6)) rfl ?_
      refine bi_TcV (as := [.ref 65]) rfl rfl ?_
      refine cV.mono h (fun s7 h => ?_) (fun _ _ h => h.elim)
      refine bi_Tr 6 (s' := (108, [(4, .int r3), (0, .ref 0), (1, .int x0), (2, .int x1), (3, .int x2)], [.ref 3, .ref 57, .ref 65], st_mm s7)) rfl ?_
      refine bi_TcV (as := [.ref 65, .ref 57, .ref 3]) rfl rfl ?_
      refine cV.mono h (fun s8 h => ?_) (fun _ _ h => h.elim)
      refine bi_Tr 1 (s' := (112, [(4, .int r3), (0, .ref 0), (1, .int x0), (2, .int x1), (3, .int x2)], [.int (0 : Int32)], st_mm s8)) rfl ?_
      exact bi_Tv rfl rfl (Or.inl ⟨_, _, rfl, h⟩)
    · have h := h.2 hc
      refine bi_Tr 3 (s' := (56, [(4, .int r3), (0, .ref 0), (1, .int x0), (2, .int x1), (3, .int x2)], [.int (st_g s4 1 9)], st_mm s4)) rfl ?_
      exact bi_Tv rfl rfl (Or.inl ⟨_, _, rfl, h⟩)
  · have h := h.2 hc
    refine bi_Tr 2 (s' := (12, [(0, .ref 0), (1, .int x0), (2, .int x1), (3, .int x2)], [.int x1, .ref 0], st_mm s1)) rfl ?_
    refine bi_TcV (as := [.ref 0, .int x1]) rfl rfl ?_
    refine cV.mono h (fun s9 h => ?_) (fun e t h => Or.inr ⟨e, t, rfl, h⟩)
    refine bi_Tr 2 (s' := (17, [(0, .ref 0), (1, .int x0), (2, .int x1), (3, .int x2)], [.int x2, .ref 0], st_mm s9)) rfl ?_
    refine bi_TcV (as := [.ref 0, .int x2]) rfl rfl ?_
    refine cV.mono h (fun s10 h => ?_) (fun e t h => Or.inr ⟨e, t, rfl, h⟩)
    obtain ⟨h0q1_26, h⟩ := h
    refine bi_Tr 7 (s' := (33, [(0, .ref 0), (1, .int x0), (2, .int x1), (3, .int x2)], [.ref 3, .ref (st_gp s10 0), .int x2, .ref 43], st_mm s10)) rfl ?_
    refine bi_TcI (as := [.ref 43, .int x2, .ref (st_gp s10 0), .ref 3]) rfl rfl ?_
    refine cI.mono h (fun r11 s11 h => ?_) (fun _ _ h => h.elim)
    refine bi_Tr 3 (s' := (41, [(4, .int r11), (0, .ref 0), (1, .int x0), (2, .int x1), (3, .int x2)], [.int r11, .ref 0], st_mm s11)) rfl ?_
    refine bi_TcV (as := [.ref 0, .int r11]) rfl rfl ?_
    refine cV.mono h (fun s12 h => ?_) (fun _ _ h => h.elim)
    refine bi_Tr 2 (s' := ((if ¬ r11 = 0 then 57 else 49), [(4, .int r11), (0, .ref 0), (1, .int x0), (2, .int x1), (3, .int x2)], [], st_mm s12)) rfl (bi_Tif (fun hc => ?_) (fun hc => ?_))
    · have h := h.1 hc
      obtain ⟨h0q2_62, h⟩ := h
      obtain ⟨h24q2_66, h⟩ := h
      refine bi_Tr 6 (s' := (69, [(4, .int r11), (0, .ref 0), (1, .int x0), (2, .int x1), (3, .int x2)], [.ref (st_gp s12 2), .ref (st_gp s12 0), .ref 57], st_mm s12)) rfl ?_
      refine bi_TcV (as := [.ref 57, .ref (st_gp s12 0), .ref (st_gp s12 2)]) rfl rfl ?_
      refine cV.mono h (fun s13 h => ?_) (fun _ _ h => h.elim)
      refine bi_Tr 8 (s' := (86, [(4, .int r11), (0, .ref 0), (1, .int x0), (2, .int x1), (3, .int x2)], [.int x1, .int x0, .ref 3, .ref 57, .ref 65], st_mm s13)) rfl ?_
      refine bi_TcV (as := [.ref 65, .ref 57, .ref 3, .int x0, .int x1]) rfl rfl ?_
      refine cV.mono h (fun s14 h => ?_) (fun _ _ h => h.elim)
      refine bi_Tr 2 (s' := (93, [(4, .int r11), (0, .ref 0), (1, .int x0), (2, .int x1), (3, .int x2)], [.ref 65], st_mm s14)) rfl ?_
      refine bi_TcV (as := [.ref 65]) rfl rfl ?_
      refine cV.mono h (fun s15 h => ?_) (fun _ _ h => h.elim)
      refine bi_Tr 6 (s' := (108, [(4, .int r11), (0, .ref 0), (1, .int x0), (2, .int x1), (3, .int x2)], [.ref 3, .ref 57, .ref 65], st_mm s15)) rfl ?_
      refine bi_TcV (as := [.ref 65, .ref 57, .ref 3]) rfl rfl ?_
      refine cV.mono h (fun s16 h => ?_) (fun _ _ h => h.elim)
      refine bi_Tr 1 (s' := (112, [(4, .int r11), (0, .ref 0), (1, .int x0), (2, .int x1), (3, .int x2)], [.int (0 : Int32)], st_mm s16)) rfl ?_
      exact bi_Tv rfl rfl (Or.inl ⟨_, _, rfl, h⟩)
    · have h := h.2 hc
      refine bi_Tr 3 (s' := (56, [(4, .int r11), (0, .ref 0), (1, .int x0), (2, .int x1), (3, .int x2)], [.int (st_g s12 1 9)], st_mm s12)) rfl ?_
      exact bi_Tv rfl rfl (Or.inl ⟨_, _, rfl, h⟩)
/-- PolicyRows.fault()I -/
theorem en_X11_fault {X : bi_X} {d : Nat} {K : Int32 → bi_St → Prop} {E : Nat → bi_St → Prop} {s : bi_St}   (h : K (st_g s 0 15) s) : cI X d 126 [.ref 0] s K E := by
  show bi_T _ _ _ _ _
  refine bi_Tr 2 (s' := (4, [(0, .ref 0)], [.int (st_g s 0 15)], st_mm s)) rfl ?_
  exact bi_Tv rfl rfl (Or.inl ⟨_, _, rfl, h⟩)
/-- PolicyRows.count(I)I -/
theorem en_X11_count {X : bi_X} {d : Nat} {K : Int32 → bi_St → Prop} {E : Nat → bi_St → Prop} {s : bi_St} {x0 : Int32}  (h : st_isB (st_gp s 0) ∧ (st_isS (st_gp s 2) ∧ (cV X d 24 [.ref 57, .ref (st_gp s 0), .ref (st_gp s 2)] s (fun (s1 : bi_St) => ((x0 = (0 : Int32)) → st_isB (st_gp s1 0) ∧ (K (st_g s1 (st_gp s1 0) 1) s1)) ∧ (¬ (x0 = (0 : Int32)) → ((x0 = (1 : Int32)) → st_isB (st_gp s1 0) ∧ (K (st_g s1 (st_gp s1 0) 0) s1)) ∧ (¬ (x0 = (1 : Int32)) → ((x0 = (2 : Int32)) → st_isS (st_gp s1 2) ∧ (K (st_g s1 (st_gp s1 2) 0) s1)) ∧ (¬ (x0 = (2 : Int32)) → ((x0 = (3 : Int32)) → st_isB (st_gp s1 0) ∧ (K (st_g s1 (st_gp s1 0) 2) s1)) ∧ (¬ (x0 = (3 : Int32)) → ((x0 = (4 : Int32)) → st_isB (st_gp s1 0) ∧ (K (st_g s1 (st_gp s1 0) 8) s1)) ∧ (¬ (x0 = (4 : Int32)) → ((x0 = (5 : Int32)) → cI X d 3 [.ref 62] s1 (fun (r2 : Int32) (s2 : bi_St) => K r2 s2) (fun _ _ => False)) ∧ (¬ (x0 = (5 : Int32)) → ((x0 = (6 : Int32)) → cI X d 5 [.ref 62] s1 (fun (r3 : Int32) (s3 : bi_St) => K r3 s3) (fun _ _ => False)) ∧ (¬ (x0 = (6 : Int32)) → ((x0 = (7 : Int32)) → st_isS (st_gp s1 2) ∧ (K (st_g s1 (st_gp s1 2) 4) s1)) ∧ (¬ (x0 = (7 : Int32)) → ((x0 = (8 : Int32)) → st_isS (st_gp s1 2) ∧ (K (st_g s1 (st_gp s1 2) 6) s1)) ∧ (¬ (x0 = (8 : Int32)) → ((x0 = (9 : Int32)) → K (st_g s1 1 1) s1) ∧ (¬ (x0 = (9 : Int32)) → ((x0 = (10 : Int32)) → bi_in (x0 - (10 : Int32)) 3 = true ∧ (K (st_g s1 76 ((x0 - (10 : Int32))).toNatClampNeg) s1)) ∧ (¬ (x0 = (10 : Int32)) → ((x0 = (11 : Int32)) → bi_in (x0 - (10 : Int32)) 3 = true ∧ (K (st_g s1 76 ((x0 - (10 : Int32))).toNatClampNeg) s1)) ∧ (¬ (x0 = (11 : Int32)) → ((x0 = (12 : Int32)) → bi_in (x0 - (10 : Int32)) 3 = true ∧ (K (st_g s1 76 ((x0 - (10 : Int32))).toNatClampNeg) s1)) ∧ (¬ (x0 = (12 : Int32)) → E 100 (st_ex s1))))))))))))))) (fun _ _ => False)))) : cI X (d + 1) 127 [.ref 0, .int x0] s K E := by
  show bi_T _ _ _ _ _
  obtain ⟨h0q0_5, h⟩ := h
  obtain ⟨h22q0_9, h⟩ := h
  refine bi_Tr 6 (s' := (12, [(0, .ref 0), (1, .int x0)], [.ref (st_gp s 2), .ref (st_gp s 0), .ref 57], st_mm s)) rfl ?_
  refine bi_TcV (as := [.ref 57, .ref (st_gp s 0), .ref (st_gp s 2)]) rfl rfl ?_
  refine cV.mono h (fun s1 h => ?_) (fun _ _ h => h.elim)
  refine bi_Tr 1 (s' := (16, [(0, .ref 0), (1, .int x0)], [.int x0], st_mm s1)) rfl ?_
  refine bi_Tsw rfl (fun t ht => ?_) (bi_swn (b := 174) rfl (by decide) (by decide))
  by_cases hc : x0 = (0 : Int32)
  · rw [hc] at ht; cases ht
    have h := h.1 hc
    obtain ⟨h0q1_85, h⟩ := h
    refine bi_Tr 2 (s' := (88, [(0, .ref 0), (1, .int x0)], [.ref (st_gp s1 0)], st_mm s1)) rfl ?_
    refine bi_Tgi (o := 0) rfl rfl rfl (st_kB0 h0q1_85) ?_
    exact bi_Tv rfl rfl (Or.inl ⟨_, _, rfl, h⟩)
  have h := h.2 hc
  have hn0 := lv_neT hc (a := 0) rfl
  by_cases hc : x0 = (1 : Int32)
  · rw [hc] at ht; cases ht
    have h := h.1 hc
    obtain ⟨h0q1_93, h⟩ := h
    refine bi_Tr 2 (s' := (96, [(0, .ref 0), (1, .int x0)], [.ref (st_gp s1 0)], st_mm s1)) rfl ?_
    refine bi_Tgi (o := 0) rfl rfl rfl (st_kB0 h0q1_93) ?_
    exact bi_Tv rfl rfl (Or.inl ⟨_, _, rfl, h⟩)
  have h := h.2 hc
  have hn1 := lv_neT hc (a := 1) rfl
  by_cases hc : x0 = (2 : Int32)
  · rw [hc] at ht; cases ht
    have h := h.1 hc
    obtain ⟨h0q1_101, h⟩ := h
    refine bi_Tr 2 (s' := (104, [(0, .ref 0), (1, .int x0)], [.ref (st_gp s1 2)], st_mm s1)) rfl ?_
    refine bi_Tgi (o := 0) rfl rfl rfl (st_kS0 h0q1_101) ?_
    exact bi_Tv rfl rfl (Or.inl ⟨_, _, rfl, h⟩)
  have h := h.2 hc
  have hn2 := lv_neT hc (a := 2) rfl
  by_cases hc : x0 = (3 : Int32)
  · rw [hc] at ht; cases ht
    have h := h.1 hc
    obtain ⟨h0q1_109, h⟩ := h
    refine bi_Tr 2 (s' := (112, [(0, .ref 0), (1, .int x0)], [.ref (st_gp s1 0)], st_mm s1)) rfl ?_
    refine bi_Tgi (o := 0) rfl rfl rfl (st_kB0 h0q1_109) ?_
    exact bi_Tv rfl rfl (Or.inl ⟨_, _, rfl, h⟩)
  have h := h.2 hc
  have hn3 := lv_neT hc (a := 3) rfl
  by_cases hc : x0 = (4 : Int32)
  · rw [hc] at ht; cases ht
    have h := h.1 hc
    obtain ⟨h0q1_117, h⟩ := h
    refine bi_Tr 2 (s' := (120, [(0, .ref 0), (1, .int x0)], [.ref (st_gp s1 0)], st_mm s1)) rfl ?_
    refine bi_Tgi (o := 0) rfl rfl rfl (st_kB0 h0q1_117) ?_
    exact bi_Tv rfl rfl (Or.inl ⟨_, _, rfl, h⟩)
  have h := h.2 hc
  have hn4 := lv_neT hc (a := 4) rfl
  by_cases hc : x0 = (5 : Int32)
  · rw [hc] at ht; cases ht
    have h := h.1 hc
    refine bi_Tr 2 (s' := (128, [(0, .ref 0), (1, .int x0)], [.ref 62], st_mm s1)) rfl ?_
    refine bi_TcI (as := [.ref 62]) rfl rfl ?_
    refine cI.mono h (fun r2 s2 h => ?_) (fun _ _ h => h.elim)
    exact bi_Tv rfl rfl (Or.inl ⟨_, _, rfl, h⟩)
  have h := h.2 hc
  have hn5 := lv_neT hc (a := 5) rfl
  by_cases hc : x0 = (6 : Int32)
  · rw [hc] at ht; cases ht
    have h := h.1 hc
    refine bi_Tr 2 (s' := (136, [(0, .ref 0), (1, .int x0)], [.ref 62], st_mm s1)) rfl ?_
    refine bi_TcI (as := [.ref 62]) rfl rfl ?_
    refine cI.mono h (fun r3 s3 h => ?_) (fun _ _ h => h.elim)
    exact bi_Tv rfl rfl (Or.inl ⟨_, _, rfl, h⟩)
  have h := h.2 hc
  have hn6 := lv_neT hc (a := 6) rfl
  by_cases hc : x0 = (7 : Int32)
  · rw [hc] at ht; cases ht
    have h := h.1 hc
    obtain ⟨h0q1_141, h⟩ := h
    refine bi_Tr 2 (s' := (144, [(0, .ref 0), (1, .int x0)], [.ref (st_gp s1 2)], st_mm s1)) rfl ?_
    refine bi_Tgi (o := 0) rfl rfl rfl (st_kS0 h0q1_141) ?_
    exact bi_Tv rfl rfl (Or.inl ⟨_, _, rfl, h⟩)
  have h := h.2 hc
  have hn7 := lv_neT hc (a := 7) rfl
  by_cases hc : x0 = (8 : Int32)
  · rw [hc] at ht; cases ht
    have h := h.1 hc
    obtain ⟨h0q1_149, h⟩ := h
    refine bi_Tr 2 (s' := (152, [(0, .ref 0), (1, .int x0)], [.ref (st_gp s1 2)], st_mm s1)) rfl ?_
    refine bi_Tgi (o := 0) rfl rfl rfl (st_kS0 h0q1_149) ?_
    exact bi_Tv rfl rfl (Or.inl ⟨_, _, rfl, h⟩)
  have h := h.2 hc
  have hn8 := lv_neT hc (a := 8) rfl
  by_cases hc : x0 = (9 : Int32)
  · rw [hc] at ht; cases ht
    have h := h.1 hc
    refine bi_Tr 3 (s' := (163, [(0, .ref 0), (1, .int x0)], [.int (st_g s1 1 1)], st_mm s1)) rfl ?_
    exact bi_Tv rfl rfl (Or.inl ⟨_, _, rfl, h⟩)
  have h := h.2 hc
  have hn9 := lv_neT hc (a := 9) rfl
  by_cases hc : x0 = (10 : Int32)
  · rw [hc] at ht; cases ht
    have h := h.1 hc
    refine bi_Tr 5 (s' := (172, [(0, .ref 0), (1, .int x0)], [.int (x0 - (10 : Int32)), .ref 76], st_mm s1)) rfl ?_
    obtain ⟨hi, h⟩ := h
    refine bi_Tial rfl rfl rfl hi ?_
    exact bi_Tv rfl rfl (Or.inl ⟨_, _, rfl, h⟩)
  have h := h.2 hc
  have hn10 := lv_neT hc (a := 10) rfl
  by_cases hc : x0 = (11 : Int32)
  · rw [hc] at ht; cases ht
    have h := h.1 hc
    refine bi_Tr 5 (s' := (172, [(0, .ref 0), (1, .int x0)], [.int (x0 - (10 : Int32)), .ref 76], st_mm s1)) rfl ?_
    obtain ⟨hi, h⟩ := h
    refine bi_Tial rfl rfl rfl hi ?_
    exact bi_Tv rfl rfl (Or.inl ⟨_, _, rfl, h⟩)
  have h := h.2 hc
  have hn11 := lv_neT hc (a := 11) rfl
  by_cases hc : x0 = (12 : Int32)
  · rw [hc] at ht; cases ht
    have h := h.1 hc
    refine bi_Tr 5 (s' := (172, [(0, .ref 0), (1, .int x0)], [.int (x0 - (10 : Int32)), .ref 76], st_mm s1)) rfl ?_
    obtain ⟨hi, h⟩ := h
    refine bi_Tial rfl rfl rfl hi ?_
    exact bi_Tv rfl rfl (Or.inl ⟨_, _, rfl, h⟩)
  have h := h.2 hc
  have hn12 := lv_neT hc (a := 12) rfl
  have ht : bi_tg 16 158 = some t := bi_swd ht (fun h1 h2 => by omega)
  cases ht
  exact bi_Te rfl rfl (Or.inr ⟨_, st_ex s1, rfl, h⟩)
/-- PolicyRows.role(II)I -/
theorem en_X11_role {X : bi_X} {d : Nat} {K : Int32 → bi_St → Prop} {E : Nat → bi_St → Prop} {s : bi_St} {x0 : Int32} {x1 : Int32}  (h : cV X d 154 [.ref 0, .int x0] s (fun (s1 : bi_St) => st_isB (st_gp s1 0) ∧ (st_isS (st_gp s1 2) ∧ (cV X d 24 [.ref 57, .ref (st_gp s1 0), .ref (st_gp s1 2)] s1 (fun (s2 : bi_St) => ((x1 = (0 : Int32)) → st_isS (st_gp s2 2) ∧ (bi_in x0 6 = true ∧ (K (st_g s2 ((st_gp s2 2) + 2) (x0).toNatClampNeg) s2))) ∧ (¬ (x1 = (0 : Int32)) → ((x1 = (1 : Int32)) → bi_in x0 6 = true ∧ (K (st_g s2 58 (x0).toNatClampNeg) s2)) ∧ (¬ (x1 = (1 : Int32)) → ((x1 = (2 : Int32)) → cI X d 32 [.ref 57, .int x0] s2 (fun (r3 : Int32) (s3 : bi_St) => K r3 s3) (fun _ _ => False)) ∧ (¬ (x1 = (2 : Int32)) → ((x1 = (3 : Int32)) → cV X d 26 [.ref 57, .int x0] s2 (fun (s4 : bi_St) => st_isS (st_gp s4 2) ∧ (cI X d 28 [.ref 57, .int (st_g s4 (st_gp s4 2) 3), .int (0 : Int32)] s4 (fun (r5 : Int32) (s5 : bi_St) => K r5 s5) (fun _ _ => False))) (fun _ _ => False)) ∧ (¬ (x1 = (3 : Int32)) → E 100 (st_ex s2)))))) (fun _ _ => False)))) E) : cI X (d + 1) 128 [.ref 0, .int x0, .int x1] s K E := by
  show bi_T _ _ _ _ _
  refine bi_Tr 2 (s' := (2, [(0, .ref 0), (1, .int x0), (2, .int x1)], [.int x0, .ref 0], st_mm s)) rfl ?_
  refine bi_TcV (as := [.ref 0, .int x0]) rfl rfl ?_
  refine cV.mono h (fun s1 h => ?_) (fun e t h => Or.inr ⟨e, t, rfl, h⟩)
  obtain ⟨h0q0_10, h⟩ := h
  obtain ⟨h23q0_14, h⟩ := h
  refine bi_Tr 6 (s' := (17, [(0, .ref 0), (1, .int x0), (2, .int x1)], [.ref (st_gp s1 2), .ref (st_gp s1 0), .ref 57], st_mm s1)) rfl ?_
  refine bi_TcV (as := [.ref 57, .ref (st_gp s1 0), .ref (st_gp s1 2)]) rfl rfl ?_
  refine cV.mono h (fun s2 h => ?_) (fun _ _ h => h.elim)
  refine bi_Tr 1 (s' := (21, [(0, .ref 0), (1, .int x0), (2, .int x1)], [.int x1], st_mm s2)) rfl ?_
  refine bi_Tsw rfl (fun t ht => ?_) (bi_swn (b := 105) rfl (by decide) (by decide))
  by_cases hc : x1 = (0 : Int32)
  · rw [hc] at ht; cases ht
    have h := h.1 hc
    obtain ⟨h0q1_53, h⟩ := h
    refine bi_Tr 2 (s' := (56, [(0, .ref 0), (1, .int x0), (2, .int x1)], [.ref (st_gp s2 2)], st_mm s2)) rfl ?_
    refine bi_Tgr rfl rfl rfl (st_kS0 h0q1_53) (st_pS2 h0q1_53) ?_
    refine bi_Tr 1 (s' := (60, [(0, .ref 0), (1, .int x0), (2, .int x1)], [.int x0, .ref ((st_gp s2 2) + 2)], st_mm s2)) rfl ?_
    obtain ⟨hi, h⟩ := h
    refine bi_Tial rfl (by have := h0q1_53; simp only [st_isS] at this; rcases this with h | h | h | h <;> rw [h] <;> rfl) (st_kS2 h0q1_53) hi ?_
    exact bi_Tv rfl rfl (Or.inl ⟨_, _, rfl, h⟩)
  have h := h.2 hc
  have hn0 := lv_neT hc (a := 0) rfl
  by_cases hc : x1 = (1 : Int32)
  · rw [hc] at ht; cases ht
    have h := h.1 hc
    refine bi_Tr 4 (s' := (70, [(0, .ref 0), (1, .int x0), (2, .int x1)], [.int x0, .ref 58], st_mm s2)) rfl ?_
    obtain ⟨hi, h⟩ := h
    refine bi_Tial rfl rfl rfl hi ?_
    exact bi_Tv rfl rfl (Or.inl ⟨_, _, rfl, h⟩)
  have h := h.2 hc
  have hn1 := lv_neT hc (a := 1) rfl
  by_cases hc : x1 = (2 : Int32)
  · rw [hc] at ht; cases ht
    have h := h.1 hc
    refine bi_Tr 3 (s' := (77, [(0, .ref 0), (1, .int x0), (2, .int x1)], [.int x0, .ref 57], st_mm s2)) rfl ?_
    refine bi_TcI (as := [.ref 57, .int x0]) rfl rfl ?_
    refine cI.mono h (fun r3 s3 h => ?_) (fun _ _ h => h.elim)
    exact bi_Tv rfl rfl (Or.inl ⟨_, _, rfl, h⟩)
  have h := h.2 hc
  have hn2 := lv_neT hc (a := 2) rfl
  by_cases hc : x1 = (3 : Int32)
  · rw [hc] at ht; cases ht
    have h := h.1 hc
    refine bi_Tr 3 (s' := (86, [(0, .ref 0), (1, .int x0), (2, .int x1)], [.int x0, .ref 57], st_mm s2)) rfl ?_
    refine bi_TcV (as := [.ref 57, .int x0]) rfl rfl ?_
    refine cV.mono h (fun s4 h => ?_) (fun _ _ h => h.elim)
    obtain ⟨h0q1_94, h⟩ := h
    refine bi_Tr 4 (s' := (97, [(0, .ref 0), (1, .int x0), (2, .int x1)], [.ref (st_gp s4 2), .ref 57], st_mm s4)) rfl ?_
    refine bi_Tgi (o := 0) rfl rfl rfl (st_kS0 h0q1_94) ?_
    refine bi_Tr 1 (s' := (101, [(0, .ref 0), (1, .int x0), (2, .int x1)], [.int (0 : Int32), .int (st_g s4 (st_gp s4 2) 3), .ref 57], st_mm s4)) rfl ?_
    refine bi_TcI (as := [.ref 57, .int (st_g s4 (st_gp s4 2) 3), .int (0 : Int32)]) rfl rfl ?_
    refine cI.mono h (fun r5 s5 h => ?_) (fun _ _ h => h.elim)
    exact bi_Tv rfl rfl (Or.inl ⟨_, _, rfl, h⟩)
  have h := h.2 hc
  have hn3 := lv_neT hc (a := 3) rfl
  have ht : bi_tg 21 84 = some t := bi_swd ht (fun h1 h2 => by omega)
  cases ht
  exact bi_Te rfl rfl (Or.inr ⟨_, st_ex s2, rfl, h⟩)
/-- PolicyRows.cell(II)I -/
theorem en_X11_cell {X : bi_X} {d : Nat} {K : Int32 → bi_St → Prop} {E : Nat → bi_St → Prop} {s : bi_St} {x0 : Int32} {x1 : Int32}  (h : cV X d 157 [.ref 0, .int x0] s (fun (s1 : bi_St) => cV X d 158 [.ref 0, .int x1] s1 (fun (s2 : bi_St) => st_isS (st_gp s2 2) ∧ (cI X d 74 [.ref (st_gp s2 2), .int x0, .int x1] s2 (fun (r3 : Int32) (s3 : bi_St) => K r3 s3) (fun _ _ => False))) E) E) : cI X (d + 1) 129 [.ref 0, .int x0, .int x1] s K E := by
  show bi_T _ _ _ _ _
  refine bi_Tr 2 (s' := (2, [(0, .ref 0), (1, .int x0), (2, .int x1)], [.int x0, .ref 0], st_mm s)) rfl ?_
  refine bi_TcV (as := [.ref 0, .int x0]) rfl rfl ?_
  refine cV.mono h (fun s1 h => ?_) (fun e t h => Or.inr ⟨e, t, rfl, h⟩)
  refine bi_Tr 2 (s' := (7, [(0, .ref 0), (1, .int x0), (2, .int x1)], [.int x1, .ref 0], st_mm s1)) rfl ?_
  refine bi_TcV (as := [.ref 0, .int x1]) rfl rfl ?_
  refine cV.mono h (fun s2 h => ?_) (fun e t h => Or.inr ⟨e, t, rfl, h⟩)
  obtain ⟨h0q0_11, h⟩ := h
  refine bi_Tr 4 (s' := (16, [(0, .ref 0), (1, .int x0), (2, .int x1)], [.int x1, .int x0, .ref (st_gp s2 2)], st_mm s2)) rfl ?_
  refine bi_TcI (as := [.ref (st_gp s2 2), .int x0, .int x1]) (bi_TcO rfl rfl rfl (st_kS0 h0q0_11) rfl rfl) rfl ?_
  refine cI.mono h (fun r3 s3 h => ?_) (fun _ _ h => h.elim)
  exact bi_Tv rfl rfl (Or.inl ⟨_, _, rfl, h⟩)
/-- PolicyRows.policy(II)I -/
theorem en_X11_policy {X : bi_X} {d : Nat} {K : Int32 → bi_St → Prop} {E : Nat → bi_St → Prop} {s : bi_St} {x0 : Int32} {x1 : Int32}  (h : cV X d 156 [.ref 0, .int x0] s (fun (s1 : bi_St) => ((x1 = (0 : Int32)) → st_isB (st_gp s1 0) ∧ (cI X d 160 [.int (st_g s1 (st_gp s1 0) 3), .int x0] s1 (fun (r2 : Int32) (s2 : bi_St) => K r2 s2) (fun _ _ => False))) ∧ (¬ (x1 = (0 : Int32)) → ((x1 = (1 : Int32)) → st_isB (st_gp s1 0) ∧ (bi_in x0 8 = true ∧ (K (st_g s1 ((st_gp s1 0) + 1) (x0).toNatClampNeg) s1))) ∧ (¬ (x1 = (1 : Int32)) → ((x1 = (2 : Int32)) → st_isB (st_gp s1 0) ∧ (bi_in x0 8 = true ∧ (K (st_g s1 ((st_gp s1 0) + 2) (x0).toNatClampNeg) s1))) ∧ (¬ (x1 = (2 : Int32)) → ((x1 = (3 : Int32)) → st_isS (st_gp s1 2) ∧ (cI X d 160 [.int (st_g s1 (st_gp s1 2) 3), .int x0] s1 (fun (r3 : Int32) (s3 : bi_St) => K r3 s3) (fun _ _ => False))) ∧ (¬ (x1 = (3 : Int32)) → ((x1 = (4 : Int32)) → st_isB (st_gp s1 0) ∧ (st_isB (st_gp s1 0) ∧ (bi_in x0 8 = true ∧ (cI X d 68 [.ref ((st_gp s1 0) + 8), .int (st_g s1 ((st_gp s1 0) + 3) (x0).toNatClampNeg)] s1 (fun (r4 : Int32) (s4 : bi_St) => K r4 s4) (fun _ _ => False))))) ∧ (¬ (x1 = (4 : Int32)) → ((x1 = (5 : Int32)) → st_isB (st_gp s1 0) ∧ (st_isB (st_gp s1 0) ∧ (bi_in x0 8 = true ∧ (cI X d 68 [.ref ((st_gp s1 0) + 8), .int (st_g s1 ((st_gp s1 0) + 4) (x0).toNatClampNeg)] s1 (fun (r5 : Int32) (s5 : bi_St) => K r5 s5) (fun _ _ => False))))) ∧ (¬ (x1 = (5 : Int32)) → ((x1 = (6 : Int32)) → st_isB (st_gp s1 0) ∧ (st_isS (st_gp s1 2) ∧ (cV X d 24 [.ref 57, .ref (st_gp s1 0), .ref (st_gp s1 2)] s1 (fun (s6 : bi_St) => cI X d 4 [.ref 62, .int x0] s6 (fun (r7 : Int32) (s7 : bi_St) => K r7 s7) (fun _ _ => False)) (fun _ _ => False)))) ∧ (¬ (x1 = (6 : Int32)) → E 100 (st_ex s1))))))))) E) : cI X (d + 1) 130 [.ref 0, .int x0, .int x1] s K E := by
  show bi_T _ _ _ _ _
  refine bi_Tr 2 (s' := (2, [(0, .ref 0), (1, .int x0), (2, .int x1)], [.int x0, .ref 0], st_mm s)) rfl ?_
  refine bi_TcV (as := [.ref 0, .int x0]) rfl rfl ?_
  refine cV.mono h (fun s1 h => ?_) (fun e t h => Or.inr ⟨e, t, rfl, h⟩)
  refine bi_Tr 1 (s' := (6, [(0, .ref 0), (1, .int x0), (2, .int x1)], [.int x1], st_mm s1)) rfl ?_
  refine bi_Tsw rfl (fun t ht => ?_) (bi_swn (b := 156) rfl (by decide) (by decide))
  by_cases hc : x1 = (0 : Int32)
  · rw [hc] at ht; cases ht
    have h := h.1 hc
    obtain ⟨h0q1_49, h⟩ := h
    refine bi_Tr 2 (s' := (52, [(0, .ref 0), (1, .int x0), (2, .int x1)], [.ref (st_gp s1 0)], st_mm s1)) rfl ?_
    refine bi_Tgi (o := 0) rfl rfl rfl (st_kB0 h0q1_49) ?_
    refine bi_Tr 1 (s' := (56, [(0, .ref 0), (1, .int x0), (2, .int x1)], [.int x0, .int (st_g s1 (st_gp s1 0) 3)], st_mm s1)) rfl ?_
    refine bi_TcI (as := [.int (st_g s1 (st_gp s1 0) 3), .int x0]) rfl rfl ?_
    refine cI.mono h (fun r2 s2 h => ?_) (fun _ _ h => h.elim)
    exact bi_Tv rfl rfl (Or.inl ⟨_, _, rfl, h⟩)
  have h := h.2 hc
  have hn0 := lv_neT hc (a := 0) rfl
  by_cases hc : x1 = (1 : Int32)
  · rw [hc] at ht; cases ht
    have h := h.1 hc
    obtain ⟨h0q1_61, h⟩ := h
    refine bi_Tr 2 (s' := (64, [(0, .ref 0), (1, .int x0), (2, .int x1)], [.ref (st_gp s1 0)], st_mm s1)) rfl ?_
    refine bi_Tgr rfl rfl rfl (st_kB0 h0q1_61) (st_pB4 h0q1_61) ?_
    refine bi_Tr 1 (s' := (68, [(0, .ref 0), (1, .int x0), (2, .int x1)], [.int x0, .ref ((st_gp s1 0) + 1)], st_mm s1)) rfl ?_
    obtain ⟨hi, h⟩ := h
    refine bi_Tial rfl (by have := h0q1_61; simp only [st_isB] at this; rcases this with h | h <;> rw [h] <;> rfl) (st_kB1 h0q1_61) hi ?_
    exact bi_Tv rfl rfl (Or.inl ⟨_, _, rfl, h⟩)
  have h := h.2 hc
  have hn1 := lv_neT hc (a := 1) rfl
  by_cases hc : x1 = (2 : Int32)
  · rw [hc] at ht; cases ht
    have h := h.1 hc
    obtain ⟨h0q1_71, h⟩ := h
    refine bi_Tr 2 (s' := (74, [(0, .ref 0), (1, .int x0), (2, .int x1)], [.ref (st_gp s1 0)], st_mm s1)) rfl ?_
    refine bi_Tgr rfl rfl rfl (st_kB0 h0q1_71) (st_pB5 h0q1_71) ?_
    refine bi_Tr 1 (s' := (78, [(0, .ref 0), (1, .int x0), (2, .int x1)], [.int x0, .ref ((st_gp s1 0) + 2)], st_mm s1)) rfl ?_
    obtain ⟨hi, h⟩ := h
    refine bi_Tial rfl (by have := h0q1_71; simp only [st_isB] at this; rcases this with h | h <;> rw [h] <;> rfl) (st_kB2 h0q1_71) hi ?_
    exact bi_Tv rfl rfl (Or.inl ⟨_, _, rfl, h⟩)
  have h := h.2 hc
  have hn2 := lv_neT hc (a := 2) rfl
  by_cases hc : x1 = (3 : Int32)
  · rw [hc] at ht; cases ht
    have h := h.1 hc
    obtain ⟨h0q1_81, h⟩ := h
    refine bi_Tr 2 (s' := (84, [(0, .ref 0), (1, .int x0), (2, .int x1)], [.ref (st_gp s1 2)], st_mm s1)) rfl ?_
    refine bi_Tgi (o := 0) rfl rfl rfl (st_kS0 h0q1_81) ?_
    refine bi_Tr 1 (s' := (88, [(0, .ref 0), (1, .int x0), (2, .int x1)], [.int x0, .int (st_g s1 (st_gp s1 2) 3)], st_mm s1)) rfl ?_
    refine bi_TcI (as := [.int (st_g s1 (st_gp s1 2) 3), .int x0]) rfl rfl ?_
    refine cI.mono h (fun r3 s3 h => ?_) (fun _ _ h => h.elim)
    exact bi_Tv rfl rfl (Or.inl ⟨_, _, rfl, h⟩)
  have h := h.2 hc
  have hn3 := lv_neT hc (a := 3) rfl
  by_cases hc : x1 = (4 : Int32)
  · rw [hc] at ht; cases ht
    have h := h.1 hc
    obtain ⟨h0q1_93, h⟩ := h
    refine bi_Tr 2 (s' := (96, [(0, .ref 0), (1, .int x0), (2, .int x1)], [.ref (st_gp s1 0)], st_mm s1)) rfl ?_
    refine bi_Tgr rfl rfl rfl (st_kB0 h0q1_93) (st_pB13 h0q1_93) ?_
    obtain ⟨h23q1_100, h⟩ := h
    refine bi_Tr 2 (s' := (103, [(0, .ref 0), (1, .int x0), (2, .int x1)], [.ref (st_gp s1 0), .ref ((st_gp s1 0) + 8)], st_mm s1)) rfl ?_
    refine bi_Tgr rfl rfl rfl (st_kB0 h23q1_100) (st_pB6 h23q1_100) ?_
    refine bi_Tr 1 (s' := (107, [(0, .ref 0), (1, .int x0), (2, .int x1)], [.int x0, .ref ((st_gp s1 0) + 3), .ref ((st_gp s1 0) + 8)], st_mm s1)) rfl ?_
    obtain ⟨hi, h⟩ := h
    refine bi_Tial rfl (by have := h23q1_100; simp only [st_isB] at this; rcases this with h | h <;> rw [h] <;> rfl) (st_kB3 h23q1_100) hi ?_
    refine bi_TcI (as := [.ref ((st_gp s1 0) + 8), .int (st_g s1 ((st_gp s1 0) + 3) (x0).toNatClampNeg)]) (bi_TcO rfl rfl rfl (st_kR0 (st_isR_B h0q1_93)) rfl rfl) rfl ?_
    refine cI.mono h (fun r4 s4 h => ?_) (fun _ _ h => h.elim)
    exact bi_Tv rfl rfl (Or.inl ⟨_, _, rfl, h⟩)
  have h := h.2 hc
  have hn4 := lv_neT hc (a := 4) rfl
  by_cases hc : x1 = (5 : Int32)
  · rw [hc] at ht; cases ht
    have h := h.1 hc
    obtain ⟨h0q1_113, h⟩ := h
    refine bi_Tr 2 (s' := (116, [(0, .ref 0), (1, .int x0), (2, .int x1)], [.ref (st_gp s1 0)], st_mm s1)) rfl ?_
    refine bi_Tgr rfl rfl rfl (st_kB0 h0q1_113) (st_pB13 h0q1_113) ?_
    obtain ⟨h23q1_120, h⟩ := h
    refine bi_Tr 2 (s' := (123, [(0, .ref 0), (1, .int x0), (2, .int x1)], [.ref (st_gp s1 0), .ref ((st_gp s1 0) + 8)], st_mm s1)) rfl ?_
    refine bi_Tgr rfl rfl rfl (st_kB0 h23q1_120) (st_pB7 h23q1_120) ?_
    refine bi_Tr 1 (s' := (127, [(0, .ref 0), (1, .int x0), (2, .int x1)], [.int x0, .ref ((st_gp s1 0) + 4), .ref ((st_gp s1 0) + 8)], st_mm s1)) rfl ?_
    obtain ⟨hi, h⟩ := h
    refine bi_Tial rfl (by have := h23q1_120; simp only [st_isB] at this; rcases this with h | h <;> rw [h] <;> rfl) (st_kB4 h23q1_120) hi ?_
    refine bi_TcI (as := [.ref ((st_gp s1 0) + 8), .int (st_g s1 ((st_gp s1 0) + 4) (x0).toNatClampNeg)]) (bi_TcO rfl rfl rfl (st_kR0 (st_isR_B h0q1_113)) rfl rfl) rfl ?_
    refine cI.mono h (fun r5 s5 h => ?_) (fun _ _ h => h.elim)
    exact bi_Tv rfl rfl (Or.inl ⟨_, _, rfl, h⟩)
  have h := h.2 hc
  have hn5 := lv_neT hc (a := 5) rfl
  by_cases hc : x1 = (6 : Int32)
  · rw [hc] at ht; cases ht
    have h := h.1 hc
    obtain ⟨h0q1_137, h⟩ := h
    obtain ⟨h23q1_141, h⟩ := h
    refine bi_Tr 6 (s' := (144, [(0, .ref 0), (1, .int x0), (2, .int x1)], [.ref (st_gp s1 2), .ref (st_gp s1 0), .ref 57], st_mm s1)) rfl ?_
    refine bi_TcV (as := [.ref 57, .ref (st_gp s1 0), .ref (st_gp s1 2)]) rfl rfl ?_
    refine cV.mono h (fun s6 h => ?_) (fun _ _ h => h.elim)
    refine bi_Tr 3 (s' := (152, [(0, .ref 0), (1, .int x0), (2, .int x1)], [.int x0, .ref 62], st_mm s6)) rfl ?_
    refine bi_TcI (as := [.ref 62, .int x0]) rfl rfl ?_
    refine cI.mono h (fun r7 s7 h => ?_) (fun _ _ h => h.elim)
    exact bi_Tv rfl rfl (Or.inl ⟨_, _, rfl, h⟩)
  have h := h.2 hc
  have hn6 := lv_neT hc (a := 6) rfl
  have ht : bi_tg 6 150 = some t := bi_swd ht (fun h1 h2 => by omega)
  cases ht
  exact bi_Te rfl rfl (Or.inr ⟨_, st_ex s1, rfl, h⟩)
/-- PolicyRows.view(II)I -/
theorem en_X11_view {X : bi_X} {d : Nat} {K : Int32 → bi_St → Prop} {E : Nat → bi_St → Prop} {s : bi_St} {x0 : Int32} {x1 : Int32}  (h : cV X d 155 [.ref 0, .int x0] s (fun (s1 : bi_St) => ((x1 = (0 : Int32)) → st_isB (st_gp s1 0) ∧ (bi_in x0 3 = true ∧ (K (st_g s1 ((st_gp s1 0) + 5) (x0).toNatClampNeg) s1))) ∧ (¬ (x1 = (0 : Int32)) → ((x1 = (1 : Int32)) → st_isB (st_gp s1 0) ∧ (cI X d 160 [.int (st_g s1 (st_gp s1 0) 9), .int x0] s1 (fun (r2 : Int32) (s2 : bi_St) => K r2 s2) (fun _ _ => False))) ∧ (¬ (x1 = (1 : Int32)) → ((x1 = (2 : Int32)) → st_isB (st_gp s1 0) ∧ (bi_in x0 3 = true ∧ (K (st_g s1 ((st_gp s1 0) + 6) (x0).toNatClampNeg) s1))) ∧ (¬ (x1 = (2 : Int32)) → ((x1 = (3 : Int32)) → st_isB (st_gp s1 0) ∧ (st_isB (st_gp s1 0) ∧ (bi_in x0 3 = true ∧ (cI X d 68 [.ref ((st_gp s1 0) + 8), .int (st_g s1 ((st_gp s1 0) + 7) (x0).toNatClampNeg)] s1 (fun (r3 : Int32) (s3 : bi_St) => K r3 s3) (fun _ _ => False))))) ∧ (¬ (x1 = (3 : Int32)) → ((x1 = (4 : Int32)) → st_isB (st_gp s1 0) ∧ (st_isB (st_gp s1 0) ∧ (bi_in x0 3 = true ∧ (cI X d 69 [.ref ((st_gp s1 0) + 8), .int (st_g s1 ((st_gp s1 0) + 7) (x0).toNatClampNeg)] s1 (fun (r4 : Int32) (s4 : bi_St) => ((r4 = 0) → K (0 : Int32) s4) ∧ (¬ (r4 = 0) → K (1 : Int32) s4)) (fun _ _ => False))))) ∧ (¬ (x1 = (4 : Int32)) → E 100 (st_ex s1))))))) E) : cI X (d + 1) 131 [.ref 0, .int x0, .int x1] s K E := by
  show bi_T _ _ _ _ _
  refine bi_Tr 2 (s' := (2, [(0, .ref 0), (1, .int x0), (2, .int x1)], [.int x0, .ref 0], st_mm s)) rfl ?_
  refine bi_TcV (as := [.ref 0, .int x0]) rfl rfl ?_
  refine cV.mono h (fun s1 h => ?_) (fun e t h => Or.inr ⟨e, t, rfl, h⟩)
  refine bi_Tr 1 (s' := (6, [(0, .ref 0), (1, .int x0), (2, .int x1)], [.int x1], st_mm s1)) rfl ?_
  refine bi_Tsw rfl (fun t ht => ?_) (bi_swn (b := 120) rfl (by decide) (by decide))
  by_cases hc : x1 = (0 : Int32)
  · rw [hc] at ht; cases ht
    have h := h.1 hc
    obtain ⟨h0q1_41, h⟩ := h
    refine bi_Tr 2 (s' := (44, [(0, .ref 0), (1, .int x0), (2, .int x1)], [.ref (st_gp s1 0)], st_mm s1)) rfl ?_
    refine bi_Tgr rfl rfl rfl (st_kB0 h0q1_41) (st_pB10 h0q1_41) ?_
    refine bi_Tr 1 (s' := (48, [(0, .ref 0), (1, .int x0), (2, .int x1)], [.int x0, .ref ((st_gp s1 0) + 5)], st_mm s1)) rfl ?_
    obtain ⟨hi, h⟩ := h
    refine bi_Tial rfl (by have := h0q1_41; simp only [st_isB] at this; rcases this with h | h <;> rw [h] <;> rfl) (st_kB5 h0q1_41) hi ?_
    exact bi_Tv rfl rfl (Or.inl ⟨_, _, rfl, h⟩)
  have h := h.2 hc
  have hn0 := lv_neT hc (a := 0) rfl
  by_cases hc : x1 = (1 : Int32)
  · rw [hc] at ht; cases ht
    have h := h.1 hc
    obtain ⟨h0q1_51, h⟩ := h
    refine bi_Tr 2 (s' := (54, [(0, .ref 0), (1, .int x0), (2, .int x1)], [.ref (st_gp s1 0)], st_mm s1)) rfl ?_
    refine bi_Tgi (o := 0) rfl rfl rfl (st_kB0 h0q1_51) ?_
    refine bi_Tr 1 (s' := (58, [(0, .ref 0), (1, .int x0), (2, .int x1)], [.int x0, .int (st_g s1 (st_gp s1 0) 9)], st_mm s1)) rfl ?_
    refine bi_TcI (as := [.int (st_g s1 (st_gp s1 0) 9), .int x0]) rfl rfl ?_
    refine cI.mono h (fun r2 s2 h => ?_) (fun _ _ h => h.elim)
    exact bi_Tv rfl rfl (Or.inl ⟨_, _, rfl, h⟩)
  have h := h.2 hc
  have hn1 := lv_neT hc (a := 1) rfl
  by_cases hc : x1 = (2 : Int32)
  · rw [hc] at ht; cases ht
    have h := h.1 hc
    obtain ⟨h0q1_63, h⟩ := h
    refine bi_Tr 2 (s' := (66, [(0, .ref 0), (1, .int x0), (2, .int x1)], [.ref (st_gp s1 0)], st_mm s1)) rfl ?_
    refine bi_Tgr rfl rfl rfl (st_kB0 h0q1_63) (st_pB11 h0q1_63) ?_
    refine bi_Tr 1 (s' := (70, [(0, .ref 0), (1, .int x0), (2, .int x1)], [.int x0, .ref ((st_gp s1 0) + 6)], st_mm s1)) rfl ?_
    obtain ⟨hi, h⟩ := h
    refine bi_Tial rfl (by have := h0q1_63; simp only [st_isB] at this; rcases this with h | h <;> rw [h] <;> rfl) (st_kB6 h0q1_63) hi ?_
    exact bi_Tv rfl rfl (Or.inl ⟨_, _, rfl, h⟩)
  have h := h.2 hc
  have hn2 := lv_neT hc (a := 2) rfl
  by_cases hc : x1 = (3 : Int32)
  · rw [hc] at ht; cases ht
    have h := h.1 hc
    obtain ⟨h0q1_73, h⟩ := h
    refine bi_Tr 2 (s' := (76, [(0, .ref 0), (1, .int x0), (2, .int x1)], [.ref (st_gp s1 0)], st_mm s1)) rfl ?_
    refine bi_Tgr rfl rfl rfl (st_kB0 h0q1_73) (st_pB13 h0q1_73) ?_
    obtain ⟨h23q1_80, h⟩ := h
    refine bi_Tr 2 (s' := (83, [(0, .ref 0), (1, .int x0), (2, .int x1)], [.ref (st_gp s1 0), .ref ((st_gp s1 0) + 8)], st_mm s1)) rfl ?_
    refine bi_Tgr rfl rfl rfl (st_kB0 h23q1_80) (st_pB12 h23q1_80) ?_
    refine bi_Tr 1 (s' := (87, [(0, .ref 0), (1, .int x0), (2, .int x1)], [.int x0, .ref ((st_gp s1 0) + 7), .ref ((st_gp s1 0) + 8)], st_mm s1)) rfl ?_
    obtain ⟨hi, h⟩ := h
    refine bi_Tial rfl (by have := h23q1_80; simp only [st_isB] at this; rcases this with h | h <;> rw [h] <;> rfl) (st_kB7 h23q1_80) hi ?_
    refine bi_TcI (as := [.ref ((st_gp s1 0) + 8), .int (st_g s1 ((st_gp s1 0) + 7) (x0).toNatClampNeg)]) (bi_TcO rfl rfl rfl (st_kR0 (st_isR_B h0q1_73)) rfl rfl) rfl ?_
    refine cI.mono h (fun r3 s3 h => ?_) (fun _ _ h => h.elim)
    exact bi_Tv rfl rfl (Or.inl ⟨_, _, rfl, h⟩)
  have h := h.2 hc
  have hn3 := lv_neT hc (a := 3) rfl
  by_cases hc : x1 = (4 : Int32)
  · rw [hc] at ht; cases ht
    have h := h.1 hc
    obtain ⟨h0q1_93, h⟩ := h
    refine bi_Tr 2 (s' := (96, [(0, .ref 0), (1, .int x0), (2, .int x1)], [.ref (st_gp s1 0)], st_mm s1)) rfl ?_
    refine bi_Tgr rfl rfl rfl (st_kB0 h0q1_93) (st_pB13 h0q1_93) ?_
    obtain ⟨h23q1_100, h⟩ := h
    refine bi_Tr 2 (s' := (103, [(0, .ref 0), (1, .int x0), (2, .int x1)], [.ref (st_gp s1 0), .ref ((st_gp s1 0) + 8)], st_mm s1)) rfl ?_
    refine bi_Tgr rfl rfl rfl (st_kB0 h23q1_100) (st_pB12 h23q1_100) ?_
    refine bi_Tr 1 (s' := (107, [(0, .ref 0), (1, .int x0), (2, .int x1)], [.int x0, .ref ((st_gp s1 0) + 7), .ref ((st_gp s1 0) + 8)], st_mm s1)) rfl ?_
    obtain ⟨hi, h⟩ := h
    refine bi_Tial rfl (by have := h23q1_100; simp only [st_isB] at this; rcases this with h | h <;> rw [h] <;> rfl) (st_kB7 h23q1_100) hi ?_
    refine bi_TcI (as := [.ref ((st_gp s1 0) + 8), .int (st_g s1 ((st_gp s1 0) + 7) (x0).toNatClampNeg)]) (bi_TcO rfl rfl rfl (st_kR0 (st_isR_B h0q1_93)) rfl rfl) rfl ?_
    refine cI.mono h (fun r4 s4 h => ?_) (fun _ _ h => h.elim)
    refine bi_Tr 1 (s' := ((if r4 = 0 then 118 else 114), [(0, .ref 0), (1, .int x0), (2, .int x1)], [], st_mm s4)) rfl (bi_Tif (fun hc => ?_) (fun hc => ?_))
    · have h := h.1 hc
      refine bi_Tr 1 (s' := (119, [(0, .ref 0), (1, .int x0), (2, .int x1)], [.int (0 : Int32)], st_mm s4)) rfl ?_
      exact bi_Tv rfl rfl (Or.inl ⟨_, _, rfl, h⟩)
    · have h := h.2 hc
      refine bi_Tr 2 (s' := (119, [(0, .ref 0), (1, .int x0), (2, .int x1)], [.int (1 : Int32)], st_mm s4)) rfl ?_
      exact bi_Tv rfl rfl (Or.inl ⟨_, _, rfl, h⟩)
  have h := h.2 hc
  have hn4 := lv_neT hc (a := 4) rfl
  have ht : bi_tg 6 114 = some t := bi_swd ht (fun h1 h2 => by omega)
  cases ht
  exact bi_Te rfl rfl (Or.inr ⟨_, st_ex s1, rfl, h⟩)
/-- PolicyRows.asked(I)I -/
theorem en_X11_asked {X : bi_X} {d : Nat} {K : Int32 → bi_St → Prop} {E : Nat → bi_St → Prop} {s : bi_St} {x0 : Int32}  (h : ((x0 < 0) → E 100 (st_ex s)) ∧ (¬ (x0 < 0) → ((x0 ≤ (7 : Int32)) → (((st_g s 65 1) = 0) → K (-1 : Int32) s) ∧ (¬ ((st_g s 65 1) = 0) → cI X d 39 [.ref 65, .int x0] s (fun (r1 : Int32) (s1 : bi_St) => K r1 s1) (fun _ _ => False))) ∧ (¬ (x0 ≤ (7 : Int32)) → E 100 (st_ex s)))) : cI X (d + 1) 132 [.ref 0, .int x0] s K E := by
  show bi_T _ _ _ _ _
  refine bi_Tr 2 (s' := ((if x0 < 0 then 10 else 4), [(0, .ref 0), (1, .int x0)], [], st_mm s)) rfl (bi_Tif (fun hc => ?_) (fun hc => ?_))
  · have h := h.1 hc
    exact bi_Te rfl rfl (Or.inr ⟨_, st_ex s, rfl, h⟩)
  · have h := h.2 hc
    refine bi_Tr 3 (s' := ((if x0 ≤ (7 : Int32) then 18 else 10), [(0, .ref 0), (1, .int x0)], [], st_mm s)) rfl (bi_Tif (fun hc => ?_) (fun hc => ?_))
    · have h := h.1 hc
      refine bi_Tr 4 (s' := ((if (st_g s 65 1) = 0 then 39 else 28), [(0, .ref 0), (1, .int x0)], [], st_mm s)) rfl (bi_Tif (fun hc => ?_) (fun hc => ?_))
      · have h := h.1 hc
        refine bi_Tr 1 (s' := (40, [(0, .ref 0), (1, .int x0)], [.int (-1 : Int32)], st_mm s)) rfl ?_
        exact bi_Tv rfl rfl (Or.inl ⟨_, _, rfl, h⟩)
      · have h := h.2 hc
        refine bi_Tr 3 (s' := (33, [(0, .ref 0), (1, .int x0)], [.int x0, .ref 65], st_mm s)) rfl ?_
        refine bi_TcI (as := [.ref 65, .int x0]) rfl rfl ?_
        refine cI.mono h (fun r1 s1 h => ?_) (fun _ _ h => h.elim)
        refine bi_Tr 1 (s' := (40, [(0, .ref 0), (1, .int x0)], [.int r1], st_mm s1)) rfl ?_
        exact bi_Tv rfl rfl (Or.inl ⟨_, _, rfl, h⟩)
    · have h := h.2 hc
      exact bi_Te rfl rfl (Or.inr ⟨_, st_ex s, rfl, h⟩)
/-- PolicyRows.step(II)I -/
theorem en_X11_step {X : bi_X} {d : Nat} {K : Int32 → bi_St → Prop} {E : Nat → bi_St → Prop} {s : bi_St} {x0 : Int32} {x1 : Int32}  (h : (((st_g s 65 1) = 0) → E 100 (st_ex s)) ∧ (¬ ((st_g s 65 1) = 0) → ((x0 < 0) → E 100 (st_ex s)) ∧ (¬ (x0 < 0) → (((st_g s 65 2) ≤ x0) → E 100 (st_ex s)) ∧ (¬ ((st_g s 65 2) ≤ x0) → ((x1 < 0) → E 100 (st_ex s)) ∧ (¬ (x1 < 0) → ((x1 ≤ (5 : Int32)) → bi_in x0 9 = true ∧ (st_isp (st_gp s (10 + (x0).toNatClampNeg)) ∧ (cI X d 90 [.ref (st_gp s (10 + (x0).toNatClampNeg)), .int x1] s (fun (r1 : Int32) (s1 : bi_St) => K r1 s1) (fun _ _ => False)))) ∧ (¬ (x1 ≤ (5 : Int32)) → E 100 (st_ex s))))))) : cI X (d + 1) 133 [.ref 0, .int x0, .int x1] s K E := by
  show bi_T _ _ _ _ _
  refine bi_Tr 4 (s' := ((if (st_g s 65 1) = 0 then 34 else 10), [(0, .ref 0), (1, .int x0), (2, .int x1)], [], st_mm s)) rfl (bi_Tif (fun hc => ?_) (fun hc => ?_))
  · have h := h.1 hc
    exact bi_Te rfl rfl (Or.inr ⟨_, st_ex s, rfl, h⟩)
  · have h := h.2 hc
    refine bi_Tr 2 (s' := ((if x0 < 0 then 34 else 14), [(0, .ref 0), (1, .int x0), (2, .int x1)], [], st_mm s)) rfl (bi_Tif (fun hc => ?_) (fun hc => ?_))
    · have h := h.1 hc
      exact bi_Te rfl rfl (Or.inr ⟨_, st_ex s, rfl, h⟩)
    · have h := h.2 hc
      refine bi_Tr 5 (s' := ((if (st_g s 65 2) ≤ x0 then 34 else 25), [(0, .ref 0), (1, .int x0), (2, .int x1)], [], st_mm s)) rfl (bi_Tif (fun hc => ?_) (fun hc => ?_))
      · have h := h.1 hc
        exact bi_Te rfl rfl (Or.inr ⟨_, st_ex s, rfl, h⟩)
      · have h := h.2 hc
        refine bi_Tr 2 (s' := ((if x1 < 0 then 34 else 29), [(0, .ref 0), (1, .int x0), (2, .int x1)], [], st_mm s)) rfl (bi_Tif (fun hc => ?_) (fun hc => ?_))
        · have h := h.1 hc
          exact bi_Te rfl rfl (Or.inr ⟨_, st_ex s, rfl, h⟩)
        · have h := h.2 hc
          refine bi_Tr 3 (s' := ((if x1 ≤ (5 : Int32) then 42 else 34), [(0, .ref 0), (1, .int x0), (2, .int x1)], [], st_mm s)) rfl (bi_Tif (fun hc => ?_) (fun hc => ?_))
          · have h := h.1 hc
            refine bi_Tr 4 (s' := (50, [(0, .ref 0), (1, .int x0), (2, .int x1)], [.int x0, .ref 66], st_mm s)) rfl ?_
            obtain ⟨hi, h⟩ := h
            refine bi_Taal rfl hi ?_
            obtain ⟨h21q5_51, h⟩ := h
            refine bi_Tr 1 (s' := (52, [(0, .ref 0), (1, .int x0), (2, .int x1)], [.int x1, .ref (st_gp s (10 + (x0).toNatClampNeg))], st_mm s)) rfl ?_
            refine bi_TcI (as := [.ref (st_gp s (10 + (x0).toNatClampNeg)), .int x1]) (bi_TcO rfl rfl rfl (st_kp0 h21q5_51) rfl rfl) rfl ?_
            refine cI.mono h (fun r1 s1 h => ?_) (fun _ _ h => h.elim)
            exact bi_Tv rfl rfl (Or.inl ⟨_, _, rfl, h⟩)
          · have h := h.2 hc
            exact bi_Te rfl rfl (Or.inr ⟨_, st_ex s, rfl, h⟩)
/-- PolicyRows.insert(IIIII)I -/
theorem en_X11_insert {X : bi_X} {d : Nat} {K : Int32 → bi_St → Prop} {E : Nat → bi_St → Prop} {s : bi_St} {x0 : Int32} {x1 : Int32} {x2 : Int32} {x3 : Int32} {x4 : Int32}  (h : cV X d 154 [.ref 0, .int x0] s (fun (s1 : bi_St) => st_isB (st_gp s1 0) ∧ (st_isS (st_gp s1 2) ∧ (cV X d 24 [.ref 57, .ref (st_gp s1 0), .ref (st_gp s1 2)] s1 (fun (s2 : bi_St) => bi_in (0 : Int32) 4 = true ∧ (bi_in (1 : Int32) 4 = true ∧ (bi_in (2 : Int32) 4 = true ∧ (bi_in (3 : Int32) 4 = true ∧ (cI X d 116 [.ref 61, .int x0] (st_p (st_p (st_p (st_p s2 59 ((0 : Int32)).toNatClampNeg x1) 59 ((1 : Int32)).toNatClampNeg x2) 59 ((2 : Int32)).toNatClampNeg x3) 59 ((3 : Int32)).toNatClampNeg x4) (fun (r3 : Int32) (s3 : bi_St) => ((¬ r3 = 0) → st_isS (st_gp s3 2) ∧ (K (st_g s3 (st_gp s3 2) 0) s3)) ∧ (¬ (¬ r3 = 0) → bi_in (1 : Int32) 3 = true ∧ (bi_in (1 : Int32) 3 = true ∧ (K (-1 : Int32) (st_p s3 76 ((1 : Int32)).toNatClampNeg ((st_g s3 76 ((1 : Int32)).toNatClampNeg) + (1 : Int32))))))) (fun _ _ => False)))))) (fun _ _ => False)))) E) : cI X (d + 1) 134 [.ref 0, .int x0, .int x1, .int x2, .int x3, .int x4] s K E := by
  show bi_T _ _ _ _ _
  refine bi_Tr 2 (s' := (2, [(0, .ref 0), (1, .int x0), (2, .int x1), (3, .int x2), (4, .int x3), (5, .int x4)], [.int x0, .ref 0], st_mm s)) rfl ?_
  refine bi_TcV (as := [.ref 0, .int x0]) rfl rfl ?_
  refine cV.mono h (fun s1 h => ?_) (fun e t h => Or.inr ⟨e, t, rfl, h⟩)
  obtain ⟨h0q0_10, h⟩ := h
  obtain ⟨h23q0_14, h⟩ := h
  refine bi_Tr 6 (s' := (17, [(0, .ref 0), (1, .int x0), (2, .int x1), (3, .int x2), (4, .int x3), (5, .int x4)], [.ref (st_gp s1 2), .ref (st_gp s1 0), .ref 57], st_mm s1)) rfl ?_
  refine bi_TcV (as := [.ref 57, .ref (st_gp s1 0), .ref (st_gp s1 2)]) rfl rfl ?_
  refine cV.mono h (fun s2 h => ?_) (fun _ _ h => h.elim)
  refine bi_Tr 5 (s' := (29, [(0, .ref 0), (1, .int x0), (2, .int x1), (3, .int x2), (4, .int x3), (5, .int x4)], [.int x1, .int (0 : Int32), .ref 59], st_mm s2)) rfl ?_
  obtain ⟨hi, h⟩ := h
  refine bi_Tias rfl rfl hi ?_
  refine bi_Tr 5 (s' := (39, [(0, .ref 0), (1, .int x0), (2, .int x1), (3, .int x2), (4, .int x3), (5, .int x4)], [.int x2, .int (1 : Int32), .ref 59], st_mm (st_p s2 59 ((0 : Int32)).toNatClampNeg x1))) rfl ?_
  obtain ⟨hi, h⟩ := h
  refine bi_Tias rfl rfl hi ?_
  refine bi_Tr 5 (s' := (50, [(0, .ref 0), (1, .int x0), (2, .int x1), (3, .int x2), (4, .int x3), (5, .int x4)], [.int x3, .int (2 : Int32), .ref 59], st_mm (st_p (st_p s2 59 ((0 : Int32)).toNatClampNeg x1) 59 ((1 : Int32)).toNatClampNeg x2))) rfl ?_
  obtain ⟨hi, h⟩ := h
  refine bi_Tias rfl rfl hi ?_
  refine bi_Tr 5 (s' := (61, [(0, .ref 0), (1, .int x0), (2, .int x1), (3, .int x2), (4, .int x3), (5, .int x4)], [.int x4, .int (3 : Int32), .ref 59], st_mm (st_p (st_p (st_p s2 59 ((0 : Int32)).toNatClampNeg x1) 59 ((1 : Int32)).toNatClampNeg x2) 59 ((2 : Int32)).toNatClampNeg x3))) rfl ?_
  obtain ⟨hi, h⟩ := h
  refine bi_Tias rfl rfl hi ?_
  refine bi_Tr 3 (s' := (67, [(0, .ref 0), (1, .int x0), (2, .int x1), (3, .int x2), (4, .int x3), (5, .int x4)], [.int x0, .ref 61], st_mm (st_p (st_p (st_p (st_p s2 59 ((0 : Int32)).toNatClampNeg x1) 59 ((1 : Int32)).toNatClampNeg x2) 59 ((2 : Int32)).toNatClampNeg x3) 59 ((3 : Int32)).toNatClampNeg x4))) rfl ?_
  refine bi_TcI (as := [.ref 61, .int x0]) rfl rfl ?_
  refine cI.mono h (fun r3 s3 h => ?_) (fun _ _ h => h.elim)
  refine bi_Tr 1 (s' := ((if ¬ r3 = 0 then 85 else 73), [(0, .ref 0), (1, .int x0), (2, .int x1), (3, .int x2), (4, .int x3), (5, .int x4)], [], st_mm s3)) rfl (bi_Tif (fun hc => ?_) (fun hc => ?_))
  · have h := h.1 hc
    obtain ⟨h0q1_86, h⟩ := h
    refine bi_Tr 2 (s' := (89, [(0, .ref 0), (1, .int x0), (2, .int x1), (3, .int x2), (4, .int x3), (5, .int x4)], [.ref (st_gp s3 2)], st_mm s3)) rfl ?_
    refine bi_Tgi (o := 0) rfl rfl rfl (st_kS0 h0q1_86) ?_
    exact bi_Tv rfl rfl (Or.inl ⟨_, _, rfl, h⟩)
  · have h := h.2 hc
    refine bi_Tr 4 (s' := (79, [(0, .ref 0), (1, .int x0), (2, .int x1), (3, .int x2), (4, .int x3), (5, .int x4)], [.int (1 : Int32), .ref 76, .int (1 : Int32), .ref 76], st_mm s3)) rfl ?_
    obtain ⟨hi, h⟩ := h
    refine bi_Tial rfl rfl rfl hi ?_
    refine bi_Tr 2 (s' := (82, [(0, .ref 0), (1, .int x0), (2, .int x1), (3, .int x2), (4, .int x3), (5, .int x4)], [.int ((st_g s3 76 ((1 : Int32)).toNatClampNeg) + (1 : Int32)), .int (1 : Int32), .ref 76], st_mm s3)) rfl ?_
    obtain ⟨hi, h⟩ := h
    refine bi_Tias rfl rfl hi ?_
    refine bi_Tr 1 (s' := (84, [(0, .ref 0), (1, .int x0), (2, .int x1), (3, .int x2), (4, .int x3), (5, .int x4)], [.int (-1 : Int32)], st_mm (st_p s3 76 ((1 : Int32)).toNatClampNeg ((st_g s3 76 ((1 : Int32)).toNatClampNeg) + (1 : Int32))))) rfl ?_
    exact bi_Tv rfl rfl (Or.inl ⟨_, _, rfl, h⟩)
/-- PolicyRows.update(IIII)I -/
theorem en_X11_update {X : bi_X} {d : Nat} {K : Int32 → bi_St → Prop} {E : Nat → bi_St → Prop} {s : bi_St} {x0 : Int32} {x1 : Int32} {x2 : Int32} {x3 : Int32}  (h : cV X d 154 [.ref 0, .int x0] s (fun (s1 : bi_St) => cV X d 158 [.ref 0, .int x2] s1 (fun (s2 : bi_St) => st_isB (st_gp s2 0) ∧ (st_isS (st_gp s2 2) ∧ (cV X d 24 [.ref 57, .ref (st_gp s2 0), .ref (st_gp s2 2)] s2 (fun (s3 : bi_St) => cI X d 117 [.ref 61, .int x0, .int x1, .int x2, .int x3] s3 (fun (r4 : Int32) (s4 : bi_St) => ((¬ r4 = (-1 : Int32)) → K r4 s4) ∧ (¬ (¬ r4 = (-1 : Int32)) → bi_in (1 : Int32) 3 = true ∧ (bi_in (1 : Int32) 3 = true ∧ (K r4 (st_p s4 76 ((1 : Int32)).toNatClampNeg ((st_g s4 76 ((1 : Int32)).toNatClampNeg) + (1 : Int32))))))) (fun _ _ => False)) (fun _ _ => False)))) E) E) : cI X (d + 1) 135 [.ref 0, .int x0, .int x1, .int x2, .int x3] s K E := by
  show bi_T _ _ _ _ _
  refine bi_Tr 2 (s' := (2, [(0, .ref 0), (1, .int x0), (2, .int x1), (3, .int x2), (4, .int x3)], [.int x0, .ref 0], st_mm s)) rfl ?_
  refine bi_TcV (as := [.ref 0, .int x0]) rfl rfl ?_
  refine cV.mono h (fun s1 h => ?_) (fun e t h => Or.inr ⟨e, t, rfl, h⟩)
  refine bi_Tr 2 (s' := (7, [(0, .ref 0), (1, .int x0), (2, .int x1), (3, .int x2), (4, .int x3)], [.int x2, .ref 0], st_mm s1)) rfl ?_
  refine bi_TcV (as := [.ref 0, .int x2]) rfl rfl ?_
  refine cV.mono h (fun s2 h => ?_) (fun e t h => Or.inr ⟨e, t, rfl, h⟩)
  obtain ⟨h0q0_15, h⟩ := h
  obtain ⟨h23q0_19, h⟩ := h
  refine bi_Tr 6 (s' := (22, [(0, .ref 0), (1, .int x0), (2, .int x1), (3, .int x2), (4, .int x3)], [.ref (st_gp s2 2), .ref (st_gp s2 0), .ref 57], st_mm s2)) rfl ?_
  refine bi_TcV (as := [.ref 57, .ref (st_gp s2 0), .ref (st_gp s2 2)]) rfl rfl ?_
  refine cV.mono h (fun s3 h => ?_) (fun _ _ h => h.elim)
  refine bi_Tr 6 (s' := (34, [(0, .ref 0), (1, .int x0), (2, .int x1), (3, .int x2), (4, .int x3)], [.int x3, .int x2, .int x1, .int x0, .ref 61], st_mm s3)) rfl ?_
  refine bi_TcI (as := [.ref 61, .int x0, .int x1, .int x2, .int x3]) rfl rfl ?_
  refine cI.mono h (fun r4 s4 h => ?_) (fun _ _ h => h.elim)
  refine bi_Tr 4 (s' := ((if ¬ r4 = (-1 : Int32) then 55 else 45), [(5, .int r4), (0, .ref 0), (1, .int x0), (2, .int x1), (3, .int x2), (4, .int x3)], [], st_mm s4)) rfl (bi_Tif (fun hc => ?_) (fun hc => ?_))
  · have h := h.1 hc
    refine bi_Tr 1 (s' := (57, [(5, .int r4), (0, .ref 0), (1, .int x0), (2, .int x1), (3, .int x2), (4, .int x3)], [.int r4], st_mm s4)) rfl ?_
    exact bi_Tv rfl rfl (Or.inl ⟨_, _, rfl, h⟩)
  · have h := h.2 hc
    refine bi_Tr 4 (s' := (51, [(5, .int r4), (0, .ref 0), (1, .int x0), (2, .int x1), (3, .int x2), (4, .int x3)], [.int (1 : Int32), .ref 76, .int (1 : Int32), .ref 76], st_mm s4)) rfl ?_
    obtain ⟨hi, h⟩ := h
    refine bi_Tial rfl rfl rfl hi ?_
    refine bi_Tr 2 (s' := (54, [(5, .int r4), (0, .ref 0), (1, .int x0), (2, .int x1), (3, .int x2), (4, .int x3)], [.int ((st_g s4 76 ((1 : Int32)).toNatClampNeg) + (1 : Int32)), .int (1 : Int32), .ref 76], st_mm s4)) rfl ?_
    obtain ⟨hi, h⟩ := h
    refine bi_Tias rfl rfl hi ?_
    refine bi_Tr 1 (s' := (57, [(5, .int r4), (0, .ref 0), (1, .int x0), (2, .int x1), (3, .int x2), (4, .int x3)], [.int r4], st_mm (st_p s4 76 ((1 : Int32)).toNatClampNeg ((st_g s4 76 ((1 : Int32)).toNatClampNeg) + (1 : Int32))))) rfl ?_
    exact bi_Tv rfl rfl (Or.inl ⟨_, _, rfl, h⟩)
/-- PolicyRows.delete(II)I -/
theorem en_X11_delete {X : bi_X} {d : Nat} {K : Int32 → bi_St → Prop} {E : Nat → bi_St → Prop} {s : bi_St} {x0 : Int32} {x1 : Int32}  (h : cV X d 154 [.ref 0, .int x0] s (fun (s1 : bi_St) => st_isB (st_gp s1 0) ∧ (st_isS (st_gp s1 2) ∧ (cV X d 24 [.ref 57, .ref (st_gp s1 0), .ref (st_gp s1 2)] s1 (fun (s2 : bi_St) => cI X d 118 [.ref 61, .int x0, .int x1] s2 (fun (r3 : Int32) (s3 : bi_St) => ((r3 = 0) → K (0 : Int32) s3) ∧ (¬ (r3 = 0) → K (1 : Int32) s3)) (fun _ _ => False)) (fun _ _ => False)))) E) : cI X (d + 1) 136 [.ref 0, .int x0, .int x1] s K E := by
  show bi_T _ _ _ _ _
  refine bi_Tr 2 (s' := (2, [(0, .ref 0), (1, .int x0), (2, .int x1)], [.int x0, .ref 0], st_mm s)) rfl ?_
  refine bi_TcV (as := [.ref 0, .int x0]) rfl rfl ?_
  refine cV.mono h (fun s1 h => ?_) (fun e t h => Or.inr ⟨e, t, rfl, h⟩)
  obtain ⟨h0q0_10, h⟩ := h
  obtain ⟨h23q0_14, h⟩ := h
  refine bi_Tr 6 (s' := (17, [(0, .ref 0), (1, .int x0), (2, .int x1)], [.ref (st_gp s1 2), .ref (st_gp s1 0), .ref 57], st_mm s1)) rfl ?_
  refine bi_TcV (as := [.ref 57, .ref (st_gp s1 0), .ref (st_gp s1 2)]) rfl rfl ?_
  refine cV.mono h (fun s2 h => ?_) (fun _ _ h => h.elim)
  refine bi_Tr 4 (s' := (26, [(0, .ref 0), (1, .int x0), (2, .int x1)], [.int x1, .int x0, .ref 61], st_mm s2)) rfl ?_
  refine bi_TcI (as := [.ref 61, .int x0, .int x1]) rfl rfl ?_
  refine cI.mono h (fun r3 s3 h => ?_) (fun _ _ h => h.elim)
  refine bi_Tr 1 (s' := ((if r3 = 0 then 36 else 32), [(0, .ref 0), (1, .int x0), (2, .int x1)], [], st_mm s3)) rfl (bi_Tif (fun hc => ?_) (fun hc => ?_))
  · have h := h.1 hc
    refine bi_Tr 1 (s' := (37, [(0, .ref 0), (1, .int x0), (2, .int x1)], [.int (0 : Int32)], st_mm s3)) rfl ?_
    exact bi_Tv rfl rfl (Or.inl ⟨_, _, rfl, h⟩)
  · have h := h.2 hc
    refine bi_Tr 2 (s' := (37, [(0, .ref 0), (1, .int x0), (2, .int x1)], [.int (1 : Int32)], st_mm s3)) rfl ?_
    exact bi_Tv rfl rfl (Or.inl ⟨_, _, rfl, h⟩)
def at_X11_grant_74 (X : bi_X) (d : Nat) (K : Int32 → bi_St → Prop) (E : Nat → bi_St → Prop) (s : bi_St) (y1 : Int32) (y2 : Int32) (y3 : Int32) (y4 : Int32) : Prop := bi_T X d 137 (74, [(0, .ref 0), (1, .int y1), (2, .int y2), (3, .int y3), (4, .int y4)], [], st_mm s) (st_RI K E)
def at_X11_grant_93 (X : bi_X) (d : Nat) (K : Int32 → bi_St → Prop) (E : Nat → bi_St → Prop) (s : bi_St)  : Prop := bi_T X d 137 (93, [(0, .ref 0)], [], st_mm s) (st_RI K E)
theorem go_X11_grant_74 {X : bi_X} {d : Nat} {K : Int32 → bi_St → Prop} {E : Nat → bi_St → Prop}  {s : bi_St} {y1 : Int32} {y2 : Int32} {y3 : Int32} {y4 : Int32}  (h : ((y1 = y2) → at_X11_grant_93 X (d + 1) K E s) ∧ (¬ (y1 = y2) → ((y4 = y3) → at_X11_grant_93 X (d + 1) K E s) ∧ (¬ (y4 = y3) → (((0 : Int32) = 0) → st_isS (st_gp s 2) ∧ (cV X d 80 [.ref (st_gp s 2), .int y1, .int y2] s (fun (s9 : bi_St) => K (1 : Int32) s9) (fun _ _ => False))) ∧ (¬ ((0 : Int32) = 0) → at_X11_grant_93 X (d + 1) K E s)))) : at_X11_grant_74 X (d + 1) K E s y1 y2 y3 y4 := by
  show bi_T _ _ _ _ _
  refine bi_Tr 5 (s' := ((if y1 = y2 then 93 else 82), [(5, .int (0 : Int32)), (0, .ref 0), (1, .int y1), (2, .int y2), (3, .int y3), (4, .int y4)], [], st_mm s)) rfl (bi_Tif (fun hc => ?_) (fun hc => ?_))
  · have h := h.1 hc
    exact bi_Tww h rfl rfl ⟨rfl, trivial⟩
  · have h := h.2 hc
    refine bi_Tr 3 (s' := ((if y4 = y3 then 93 else 88), [(5, .int (0 : Int32)), (0, .ref 0), (1, .int y1), (2, .int y2), (3, .int y3), (4, .int y4)], [], st_mm s)) rfl (bi_Tif (fun hc => ?_) (fun hc => ?_))
    · have h := h.1 hc
      exact bi_Tww h rfl rfl ⟨rfl, trivial⟩
    · have h := h.2 hc
      refine bi_Tr 2 (s' := ((if (0 : Int32) = 0 then 105 else 93), [(5, .int (0 : Int32)), (0, .ref 0), (1, .int y1), (2, .int y2), (3, .int y3), (4, .int y4)], [], st_mm s)) rfl (bi_Tif (fun hc => ?_) (fun hc => ?_))
      · have h := h.1 hc
        obtain ⟨h0q3_106, h⟩ := h
        refine bi_Tr 4 (s' := (111, [(5, .int (0 : Int32)), (0, .ref 0), (1, .int y1), (2, .int y2), (3, .int y3), (4, .int y4)], [.int y2, .int y1, .ref (st_gp s 2)], st_mm s)) rfl ?_
        refine bi_TcV (as := [.ref (st_gp s 2), .int y1, .int y2]) (bi_TcO rfl rfl rfl (st_kS0 h0q3_106) rfl rfl) rfl ?_
        refine cV.mono h (fun s9 h => ?_) (fun _ _ h => h.elim)
        refine bi_Tr 1 (s' := (115, [(5, .int (0 : Int32)), (0, .ref 0), (1, .int y1), (2, .int y2), (3, .int y3), (4, .int y4)], [.int (1 : Int32)], st_mm s9)) rfl ?_
        exact bi_Tv rfl rfl (Or.inl ⟨_, _, rfl, h⟩)
      · have h := h.2 hc
        exact bi_Tww h rfl rfl ⟨rfl, trivial⟩
theorem go_X11_grant_93 {X : bi_X} {d : Nat} {K : Int32 → bi_St → Prop} {E : Nat → bi_St → Prop}  {s : bi_St}   (h : bi_in (1 : Int32) 3 = true ∧ (bi_in (1 : Int32) 3 = true ∧ (K (0 : Int32) (st_p s 76 ((1 : Int32)).toNatClampNeg ((st_g s 76 ((1 : Int32)).toNatClampNeg) + (1 : Int32)))))) : at_X11_grant_93 X (d + 1) K E s  := by
  show bi_T _ _ _ _ _
  refine bi_Tr 4 (s' := (99, [(0, .ref 0)], [.int (1 : Int32), .ref 76, .int (1 : Int32), .ref 76], st_mm s)) rfl ?_
  obtain ⟨hi, h⟩ := h
  refine bi_Tial rfl rfl rfl hi ?_
  refine bi_Tr 2 (s' := (102, [(0, .ref 0)], [.int ((st_g s 76 ((1 : Int32)).toNatClampNeg) + (1 : Int32)), .int (1 : Int32), .ref 76], st_mm s)) rfl ?_
  obtain ⟨hi, h⟩ := h
  refine bi_Tias rfl rfl hi ?_
  refine bi_Tr 1 (s' := (104, [(0, .ref 0)], [.int (0 : Int32)], st_mm (st_p s 76 ((1 : Int32)).toNatClampNeg ((st_g s 76 ((1 : Int32)).toNatClampNeg) + (1 : Int32))))) rfl ?_
  exact bi_Tv rfl rfl (Or.inl ⟨_, _, rfl, h⟩)
/-- PolicyRows.grant(IIZ)Z -/
theorem en_X11_grant {X : bi_X} {d : Nat} {K : Int32 → bi_St → Prop} {E : Nat → bi_St → Prop} {s : bi_St} {x0 : Int32} {x1 : Int32} {x2 : Int32}  (h : cV X d 154 [.ref 0, .int x0] s (fun (s1 : bi_St) => cV X d 154 [.ref 0, .int x1] s1 (fun (s2 : bi_St) => st_isB (st_gp s2 0) ∧ (st_isS (st_gp s2 2) ∧ (cV X d 24 [.ref 57, .ref (st_gp s2 0), .ref (st_gp s2 2)] s2 (fun (s3 : bi_St) => st_isS (st_gp s3 2) ∧ (bi_in x0 6 = true ∧ (cI X d 160 [.int (st_g s3 ((st_gp s3 2) + 2) (x0).toNatClampNeg), .int x1] s3 (fun (r4 : Int32) (s4 : bi_St) => ((¬ r4 = (1 : Int32)) → ((x2 = 0) → at_X11_grant_74 X (d + 1) K E s4 (x0) (x1) (x2) ((0 : Int32))) ∧ (¬ (x2 = 0) → bi_in x1 6 = true ∧ (cI X d 160 [.int (st_g s4 58 (x1).toNatClampNeg), .int x0] s4 (fun (r5 : Int32) (s5 : bi_St) => ((¬ r5 = (1 : Int32)) → at_X11_grant_74 X (d + 1) K E s5 (x0) (x1) (x2) ((0 : Int32))) ∧ (¬ (¬ r5 = (1 : Int32)) → ((x0 = x1) → at_X11_grant_93 X (d + 1) K E s5) ∧ (¬ (x0 = x1) → (((0 : Int32) = x2) → at_X11_grant_93 X (d + 1) K E s5) ∧ (¬ ((0 : Int32) = x2) → (((1 : Int32) = 0) → st_isS (st_gp s5 2) ∧ (cV X d 80 [.ref (st_gp s5 2), .int x0, .int x1] s5 (fun (s6 : bi_St) => K (1 : Int32) s6) (fun _ _ => False))) ∧ (¬ ((1 : Int32) = 0) → at_X11_grant_93 X (d + 1) K E s5))))) (fun _ _ => False)))) ∧ (¬ (¬ r4 = (1 : Int32)) → ((x2 = 0) → at_X11_grant_74 X (d + 1) K E s4 (x0) (x1) (x2) ((1 : Int32))) ∧ (¬ (x2 = 0) → bi_in x1 6 = true ∧ (cI X d 160 [.int (st_g s4 58 (x1).toNatClampNeg), .int x0] s4 (fun (r7 : Int32) (s7 : bi_St) => ((¬ r7 = (1 : Int32)) → at_X11_grant_74 X (d + 1) K E s7 (x0) (x1) (x2) ((1 : Int32))) ∧ (¬ (¬ r7 = (1 : Int32)) → ((x0 = x1) → at_X11_grant_93 X (d + 1) K E s7) ∧ (¬ (x0 = x1) → (((1 : Int32) = x2) → at_X11_grant_93 X (d + 1) K E s7) ∧ (¬ ((1 : Int32) = x2) → (((1 : Int32) = 0) → st_isS (st_gp s7 2) ∧ (cV X d 80 [.ref (st_gp s7 2), .int x0, .int x1] s7 (fun (s8 : bi_St) => K (1 : Int32) s8) (fun _ _ => False))) ∧ (¬ ((1 : Int32) = 0) → at_X11_grant_93 X (d + 1) K E s7))))) (fun _ _ => False))))) (fun _ _ => False)))) (fun _ _ => False)))) E) E) : cI X (d + 1) 137 [.ref 0, .int x0, .int x1, .int x2] s K E := by
  show bi_T _ _ _ _ _
  refine bi_Tr 2 (s' := (2, [(0, .ref 0), (1, .int x0), (2, .int x1), (3, .int x2)], [.int x0, .ref 0], st_mm s)) rfl ?_
  refine bi_TcV (as := [.ref 0, .int x0]) rfl rfl ?_
  refine cV.mono h (fun s1 h => ?_) (fun e t h => Or.inr ⟨e, t, rfl, h⟩)
  refine bi_Tr 2 (s' := (7, [(0, .ref 0), (1, .int x0), (2, .int x1), (3, .int x2)], [.int x1, .ref 0], st_mm s1)) rfl ?_
  refine bi_TcV (as := [.ref 0, .int x1]) rfl rfl ?_
  refine cV.mono h (fun s2 h => ?_) (fun e t h => Or.inr ⟨e, t, rfl, h⟩)
  obtain ⟨h0q0_15, h⟩ := h
  obtain ⟨h23q0_19, h⟩ := h
  refine bi_Tr 6 (s' := (22, [(0, .ref 0), (1, .int x0), (2, .int x1), (3, .int x2)], [.ref (st_gp s2 2), .ref (st_gp s2 0), .ref 57], st_mm s2)) rfl ?_
  refine bi_TcV (as := [.ref 57, .ref (st_gp s2 0), .ref (st_gp s2 2)]) rfl rfl ?_
  refine cV.mono h (fun s3 h => ?_) (fun _ _ h => h.elim)
  obtain ⟨h0q0_26, h⟩ := h
  refine bi_Tr 2 (s' := (29, [(0, .ref 0), (1, .int x0), (2, .int x1), (3, .int x2)], [.ref (st_gp s3 2)], st_mm s3)) rfl ?_
  refine bi_Tgr rfl rfl rfl (st_kS0 h0q0_26) (st_pS2 h0q0_26) ?_
  refine bi_Tr 1 (s' := (33, [(0, .ref 0), (1, .int x0), (2, .int x1), (3, .int x2)], [.int x0, .ref ((st_gp s3 2) + 2)], st_mm s3)) rfl ?_
  obtain ⟨hi, h⟩ := h
  refine bi_Tial rfl (by have := h0q0_26; simp only [st_isS] at this; rcases this with h | h | h | h <;> rw [h] <;> rfl) (st_kS2 h0q0_26) hi ?_
  refine bi_Tr 1 (s' := (35, [(0, .ref 0), (1, .int x0), (2, .int x1), (3, .int x2)], [.int x1, .int (st_g s3 ((st_gp s3 2) + 2) (x0).toNatClampNeg)], st_mm s3)) rfl ?_
  refine bi_TcI (as := [.int (st_g s3 ((st_gp s3 2) + 2) (x0).toNatClampNeg), .int x1]) rfl rfl ?_
  refine cI.mono h (fun r4 s4 h => ?_) (fun _ _ h => h.elim)
  refine bi_Tr 2 (s' := ((if ¬ r4 = (1 : Int32) then 46 else 42), [(0, .ref 0), (1, .int x0), (2, .int x1), (3, .int x2)], [], st_mm s4)) rfl (bi_Tif (fun hc => ?_) (fun hc => ?_))
  · have h := h.1 hc
    refine bi_Tr 4 (s' := ((if x2 = 0 then 74 else 53), [(4, .int (0 : Int32)), (0, .ref 0), (1, .int x0), (2, .int x1), (3, .int x2)], [], st_mm s4)) rfl (bi_Tif (fun hc => ?_) (fun hc => ?_))
    · have h := h.1 hc
      exact bi_Tww h rfl rfl ⟨rfl, rfl, rfl, rfl, rfl, trivial⟩
    · have h := h.2 hc
      refine bi_Tr 4 (s' := (61, [(4, .int (0 : Int32)), (0, .ref 0), (1, .int x0), (2, .int x1), (3, .int x2)], [.int x1, .ref 58], st_mm s4)) rfl ?_
      obtain ⟨hi, h⟩ := h
      refine bi_Tial rfl rfl rfl hi ?_
      refine bi_Tr 1 (s' := (63, [(4, .int (0 : Int32)), (0, .ref 0), (1, .int x0), (2, .int x1), (3, .int x2)], [.int x0, .int (st_g s4 58 (x1).toNatClampNeg)], st_mm s4)) rfl ?_
      refine bi_TcI (as := [.int (st_g s4 58 (x1).toNatClampNeg), .int x0]) rfl rfl ?_
      refine cI.mono h (fun r5 s5 h => ?_) (fun _ _ h => h.elim)
      refine bi_Tr 2 (s' := ((if ¬ r5 = (1 : Int32) then 74 else 70), [(4, .int (0 : Int32)), (0, .ref 0), (1, .int x0), (2, .int x1), (3, .int x2)], [], st_mm s5)) rfl (bi_Tif (fun hc => ?_) (fun hc => ?_))
      · have h := h.1 hc
        exact bi_Tww h rfl rfl ⟨rfl, rfl, rfl, rfl, rfl, trivial⟩
      · have h := h.2 hc
        refine bi_Tr 6 (s' := ((if x0 = x1 then 93 else 82), [(5, .int (1 : Int32)), (4, .int (0 : Int32)), (0, .ref 0), (1, .int x0), (2, .int x1), (3, .int x2)], [], st_mm s5)) rfl (bi_Tif (fun hc => ?_) (fun hc => ?_))
        · have h := h.1 hc
          exact bi_Tww h rfl rfl ⟨rfl, trivial⟩
        · have h := h.2 hc
          refine bi_Tr 3 (s' := ((if (0 : Int32) = x2 then 93 else 88), [(5, .int (1 : Int32)), (4, .int (0 : Int32)), (0, .ref 0), (1, .int x0), (2, .int x1), (3, .int x2)], [], st_mm s5)) rfl (bi_Tif (fun hc => ?_) (fun hc => ?_))
          · have h := h.1 hc
            exact bi_Tww h rfl rfl ⟨rfl, trivial⟩
          · have h := h.2 hc
            refine bi_Tr 2 (s' := ((if (1 : Int32) = 0 then 105 else 93), [(5, .int (1 : Int32)), (4, .int (0 : Int32)), (0, .ref 0), (1, .int x0), (2, .int x1), (3, .int x2)], [], st_mm s5)) rfl (bi_Tif (fun hc => ?_) (fun hc => ?_))
            · have h := h.1 hc
              obtain ⟨h0q6_106, h⟩ := h
              refine bi_Tr 4 (s' := (111, [(5, .int (1 : Int32)), (4, .int (0 : Int32)), (0, .ref 0), (1, .int x0), (2, .int x1), (3, .int x2)], [.int x1, .int x0, .ref (st_gp s5 2)], st_mm s5)) rfl ?_
              refine bi_TcV (as := [.ref (st_gp s5 2), .int x0, .int x1]) (bi_TcO rfl rfl rfl (st_kS0 h0q6_106) rfl rfl) rfl ?_
              refine cV.mono h (fun s6 h => ?_) (fun _ _ h => h.elim)
              refine bi_Tr 1 (s' := (115, [(5, .int (1 : Int32)), (4, .int (0 : Int32)), (0, .ref 0), (1, .int x0), (2, .int x1), (3, .int x2)], [.int (1 : Int32)], st_mm s6)) rfl ?_
              exact bi_Tv rfl rfl (Or.inl ⟨_, _, rfl, h⟩)
            · have h := h.2 hc
              exact bi_Tww h rfl rfl ⟨rfl, trivial⟩
  · have h := h.2 hc
    refine bi_Tr 5 (s' := ((if x2 = 0 then 74 else 53), [(4, .int (1 : Int32)), (0, .ref 0), (1, .int x0), (2, .int x1), (3, .int x2)], [], st_mm s4)) rfl (bi_Tif (fun hc => ?_) (fun hc => ?_))
    · have h := h.1 hc
      exact bi_Tww h rfl rfl ⟨rfl, rfl, rfl, rfl, rfl, trivial⟩
    · have h := h.2 hc
      refine bi_Tr 4 (s' := (61, [(4, .int (1 : Int32)), (0, .ref 0), (1, .int x0), (2, .int x1), (3, .int x2)], [.int x1, .ref 58], st_mm s4)) rfl ?_
      obtain ⟨hi, h⟩ := h
      refine bi_Tial rfl rfl rfl hi ?_
      refine bi_Tr 1 (s' := (63, [(4, .int (1 : Int32)), (0, .ref 0), (1, .int x0), (2, .int x1), (3, .int x2)], [.int x0, .int (st_g s4 58 (x1).toNatClampNeg)], st_mm s4)) rfl ?_
      refine bi_TcI (as := [.int (st_g s4 58 (x1).toNatClampNeg), .int x0]) rfl rfl ?_
      refine cI.mono h (fun r7 s7 h => ?_) (fun _ _ h => h.elim)
      refine bi_Tr 2 (s' := ((if ¬ r7 = (1 : Int32) then 74 else 70), [(4, .int (1 : Int32)), (0, .ref 0), (1, .int x0), (2, .int x1), (3, .int x2)], [], st_mm s7)) rfl (bi_Tif (fun hc => ?_) (fun hc => ?_))
      · have h := h.1 hc
        exact bi_Tww h rfl rfl ⟨rfl, rfl, rfl, rfl, rfl, trivial⟩
      · have h := h.2 hc
        refine bi_Tr 6 (s' := ((if x0 = x1 then 93 else 82), [(5, .int (1 : Int32)), (4, .int (1 : Int32)), (0, .ref 0), (1, .int x0), (2, .int x1), (3, .int x2)], [], st_mm s7)) rfl (bi_Tif (fun hc => ?_) (fun hc => ?_))
        · have h := h.1 hc
          exact bi_Tww h rfl rfl ⟨rfl, trivial⟩
        · have h := h.2 hc
          refine bi_Tr 3 (s' := ((if (1 : Int32) = x2 then 93 else 88), [(5, .int (1 : Int32)), (4, .int (1 : Int32)), (0, .ref 0), (1, .int x0), (2, .int x1), (3, .int x2)], [], st_mm s7)) rfl (bi_Tif (fun hc => ?_) (fun hc => ?_))
          · have h := h.1 hc
            exact bi_Tww h rfl rfl ⟨rfl, trivial⟩
          · have h := h.2 hc
            refine bi_Tr 2 (s' := ((if (1 : Int32) = 0 then 105 else 93), [(5, .int (1 : Int32)), (4, .int (1 : Int32)), (0, .ref 0), (1, .int x0), (2, .int x1), (3, .int x2)], [], st_mm s7)) rfl (bi_Tif (fun hc => ?_) (fun hc => ?_))
            · have h := h.1 hc
              obtain ⟨h0q6_106, h⟩ := h
              refine bi_Tr 4 (s' := (111, [(5, .int (1 : Int32)), (4, .int (1 : Int32)), (0, .ref 0), (1, .int x0), (2, .int x1), (3, .int x2)], [.int x1, .int x0, .ref (st_gp s7 2)], st_mm s7)) rfl ?_
              refine bi_TcV (as := [.ref (st_gp s7 2), .int x0, .int x1]) (bi_TcO rfl rfl rfl (st_kS0 h0q6_106) rfl rfl) rfl ?_
              refine cV.mono h (fun s8 h => ?_) (fun _ _ h => h.elim)
              refine bi_Tr 1 (s' := (115, [(5, .int (1 : Int32)), (4, .int (1 : Int32)), (0, .ref 0), (1, .int x0), (2, .int x1), (3, .int x2)], [.int (1 : Int32)], st_mm s8)) rfl ?_
              exact bi_Tv rfl rfl (Or.inl ⟨_, _, rfl, h⟩)
            · have h := h.2 hc
              exact bi_Tww h rfl rfl ⟨rfl, trivial⟩
/-- PolicyRows.turn(IZ)Z -/
theorem en_X11_turn {X : bi_X} {d : Nat} {K : Int32 → bi_St → Prop} {E : Nat → bi_St → Prop} {s : bi_St} {x0 : Int32} {x1 : Int32}  (h : cV X d 156 [.ref 0, .int x0] s (fun (s1 : bi_St) => st_isS (st_gp s1 2) ∧ (cI X d 160 [.int (st_g s1 (st_gp s1 2) 3), .int x0] s1 (fun (r2 : Int32) (s2 : bi_St) => ((¬ r2 = (1 : Int32)) → ((¬ (0 : Int32) = x1) → st_isS (st_gp s2 2) ∧ (cV X d 81 [.ref (st_gp s2 2), .int x0] s2 (fun (s3 : bi_St) => K (1 : Int32) s3) (fun _ _ => False))) ∧ (¬ (¬ (0 : Int32) = x1) → bi_in (1 : Int32) 3 = true ∧ (bi_in (1 : Int32) 3 = true ∧ (K (0 : Int32) (st_p s2 76 ((1 : Int32)).toNatClampNeg ((st_g s2 76 ((1 : Int32)).toNatClampNeg) + (1 : Int32))))))) ∧ (¬ (¬ r2 = (1 : Int32)) → ((¬ (1 : Int32) = x1) → st_isS (st_gp s2 2) ∧ (cV X d 81 [.ref (st_gp s2 2), .int x0] s2 (fun (s4 : bi_St) => K (1 : Int32) s4) (fun _ _ => False))) ∧ (¬ (¬ (1 : Int32) = x1) → bi_in (1 : Int32) 3 = true ∧ (bi_in (1 : Int32) 3 = true ∧ (K (0 : Int32) (st_p s2 76 ((1 : Int32)).toNatClampNeg ((st_g s2 76 ((1 : Int32)).toNatClampNeg) + (1 : Int32)))))))) (fun _ _ => False))) E) : cI X (d + 1) 138 [.ref 0, .int x0, .int x1] s K E := by
  show bi_T _ _ _ _ _
  refine bi_Tr 2 (s' := (2, [(0, .ref 0), (1, .int x0), (2, .int x1)], [.int x0, .ref 0], st_mm s)) rfl ?_
  refine bi_TcV (as := [.ref 0, .int x0]) rfl rfl ?_
  refine cV.mono h (fun s1 h => ?_) (fun e t h => Or.inr ⟨e, t, rfl, h⟩)
  obtain ⟨h0q0_6, h⟩ := h
  refine bi_Tr 2 (s' := (9, [(0, .ref 0), (1, .int x0), (2, .int x1)], [.ref (st_gp s1 2)], st_mm s1)) rfl ?_
  refine bi_Tgi (o := 0) rfl rfl rfl (st_kS0 h0q0_6) ?_
  refine bi_Tr 1 (s' := (13, [(0, .ref 0), (1, .int x0), (2, .int x1)], [.int x0, .int (st_g s1 (st_gp s1 2) 3)], st_mm s1)) rfl ?_
  refine bi_TcI (as := [.int (st_g s1 (st_gp s1 2) 3), .int x0]) rfl rfl ?_
  refine cI.mono h (fun r2 s2 h => ?_) (fun _ _ h => h.elim)
  refine bi_Tr 2 (s' := ((if ¬ r2 = (1 : Int32) then 24 else 20), [(0, .ref 0), (1, .int x0), (2, .int x1)], [], st_mm s2)) rfl (bi_Tif (fun hc => ?_) (fun hc => ?_))
  · have h := h.1 hc
    refine bi_Tr 5 (s' := ((if ¬ (0 : Int32) = x1 then 43 else 31), [(3, .int (0 : Int32)), (0, .ref 0), (1, .int x0), (2, .int x1)], [], st_mm s2)) rfl (bi_Tif (fun hc => ?_) (fun hc => ?_))
    · have h := h.1 hc
      obtain ⟨h0q2_44, h⟩ := h
      refine bi_Tr 3 (s' := (48, [(3, .int (0 : Int32)), (0, .ref 0), (1, .int x0), (2, .int x1)], [.int x0, .ref (st_gp s2 2)], st_mm s2)) rfl ?_
      refine bi_TcV (as := [.ref (st_gp s2 2), .int x0]) (bi_TcO rfl rfl rfl (st_kS0 h0q2_44) rfl rfl) rfl ?_
      refine cV.mono h (fun s3 h => ?_) (fun _ _ h => h.elim)
      refine bi_Tr 1 (s' := (52, [(3, .int (0 : Int32)), (0, .ref 0), (1, .int x0), (2, .int x1)], [.int (1 : Int32)], st_mm s3)) rfl ?_
      exact bi_Tv rfl rfl (Or.inl ⟨_, _, rfl, h⟩)
    · have h := h.2 hc
      refine bi_Tr 4 (s' := (37, [(3, .int (0 : Int32)), (0, .ref 0), (1, .int x0), (2, .int x1)], [.int (1 : Int32), .ref 76, .int (1 : Int32), .ref 76], st_mm s2)) rfl ?_
      obtain ⟨hi, h⟩ := h
      refine bi_Tial rfl rfl rfl hi ?_
      refine bi_Tr 2 (s' := (40, [(3, .int (0 : Int32)), (0, .ref 0), (1, .int x0), (2, .int x1)], [.int ((st_g s2 76 ((1 : Int32)).toNatClampNeg) + (1 : Int32)), .int (1 : Int32), .ref 76], st_mm s2)) rfl ?_
      obtain ⟨hi, h⟩ := h
      refine bi_Tias rfl rfl hi ?_
      refine bi_Tr 1 (s' := (42, [(3, .int (0 : Int32)), (0, .ref 0), (1, .int x0), (2, .int x1)], [.int (0 : Int32)], st_mm (st_p s2 76 ((1 : Int32)).toNatClampNeg ((st_g s2 76 ((1 : Int32)).toNatClampNeg) + (1 : Int32))))) rfl ?_
      exact bi_Tv rfl rfl (Or.inl ⟨_, _, rfl, h⟩)
  · have h := h.2 hc
    refine bi_Tr 6 (s' := ((if ¬ (1 : Int32) = x1 then 43 else 31), [(3, .int (1 : Int32)), (0, .ref 0), (1, .int x0), (2, .int x1)], [], st_mm s2)) rfl (bi_Tif (fun hc => ?_) (fun hc => ?_))
    · have h := h.1 hc
      obtain ⟨h0q2_44, h⟩ := h
      refine bi_Tr 3 (s' := (48, [(3, .int (1 : Int32)), (0, .ref 0), (1, .int x0), (2, .int x1)], [.int x0, .ref (st_gp s2 2)], st_mm s2)) rfl ?_
      refine bi_TcV (as := [.ref (st_gp s2 2), .int x0]) (bi_TcO rfl rfl rfl (st_kS0 h0q2_44) rfl rfl) rfl ?_
      refine cV.mono h (fun s4 h => ?_) (fun _ _ h => h.elim)
      refine bi_Tr 1 (s' := (52, [(3, .int (1 : Int32)), (0, .ref 0), (1, .int x0), (2, .int x1)], [.int (1 : Int32)], st_mm s4)) rfl ?_
      exact bi_Tv rfl rfl (Or.inl ⟨_, _, rfl, h⟩)
    · have h := h.2 hc
      refine bi_Tr 4 (s' := (37, [(3, .int (1 : Int32)), (0, .ref 0), (1, .int x0), (2, .int x1)], [.int (1 : Int32), .ref 76, .int (1 : Int32), .ref 76], st_mm s2)) rfl ?_
      obtain ⟨hi, h⟩ := h
      refine bi_Tial rfl rfl rfl hi ?_
      refine bi_Tr 2 (s' := (40, [(3, .int (1 : Int32)), (0, .ref 0), (1, .int x0), (2, .int x1)], [.int ((st_g s2 76 ((1 : Int32)).toNatClampNeg) + (1 : Int32)), .int (1 : Int32), .ref 76], st_mm s2)) rfl ?_
      obtain ⟨hi, h⟩ := h
      refine bi_Tias rfl rfl hi ?_
      refine bi_Tr 1 (s' := (42, [(3, .int (1 : Int32)), (0, .ref 0), (1, .int x0), (2, .int x1)], [.int (0 : Int32)], st_mm (st_p s2 76 ((1 : Int32)).toNatClampNeg ((st_g s2 76 ((1 : Int32)).toNatClampNeg) + (1 : Int32))))) rfl ?_
      exact bi_Tv rfl rfl (Or.inl ⟨_, _, rfl, h⟩)
/-- PolicyRows.undo()I -/
theorem en_X11_undo {X : bi_X} {d : Nat} {K : Int32 → bi_St → Prop} {E : Nat → bi_St → Prop} {s : bi_St}   (h : st_isS (st_gp s 2) ∧ (cI X d 82 [.ref (st_gp s 2)] s (fun (r1 : Int32) (s1 : bi_St) => ((r1 = 0) → K (-1 : Int32) s1) ∧ (¬ (r1 = 0) → st_isS (st_gp s1 2) ∧ (K (st_g s1 (st_gp s1 2) 4) s1))) (fun _ _ => False))) : cI X (d + 1) 139 [.ref 0] s K E := by
  show bi_T _ _ _ _ _
  obtain ⟨h0q0_1, h⟩ := h
  refine bi_Tr 2 (s' := (4, [(0, .ref 0)], [.ref (st_gp s 2)], st_mm s)) rfl ?_
  refine bi_TcI (as := [.ref (st_gp s 2)]) (bi_TcO rfl rfl rfl (st_kS0 h0q0_1) rfl rfl) rfl ?_
  refine cI.mono h (fun r1 s1 h => ?_) (fun _ _ h => h.elim)
  refine bi_Tr 1 (s' := ((if r1 = 0 then 20 else 10), [(0, .ref 0)], [], st_mm s1)) rfl (bi_Tif (fun hc => ?_) (fun hc => ?_))
  · have h := h.1 hc
    refine bi_Tr 1 (s' := (21, [(0, .ref 0)], [.int (-1 : Int32)], st_mm s1)) rfl ?_
    exact bi_Tv rfl rfl (Or.inl ⟨_, _, rfl, h⟩)
  · have h := h.2 hc
    obtain ⟨h0q1_11, h⟩ := h
    refine bi_Tr 2 (s' := (14, [(0, .ref 0)], [.ref (st_gp s1 2)], st_mm s1)) rfl ?_
    refine bi_Tgi (o := 0) rfl rfl rfl (st_kS0 h0q1_11) ?_
    refine bi_Tr 1 (s' := (21, [(0, .ref 0)], [.int (st_g s1 (st_gp s1 2) 4)], st_mm s1)) rfl ?_
    exact bi_Tv rfl rfl (Or.inl ⟨_, _, rfl, h⟩)
/-- PolicyRows.readers(I)I -/
theorem en_X11_readers {X : bi_X} {d : Nat} {K : Int32 → bi_St → Prop} {E : Nat → bi_St → Prop} {s : bi_St} {x0 : Int32}  (h : cV X d 157 [.ref 0, .int x0] s (fun (s1 : bi_St) => st_isB (st_gp s1 0) ∧ (st_isS (st_gp s1 2) ∧ (cV X d 24 [.ref 57, .ref (st_gp s1 0), .ref (st_gp s1 2)] s1 (fun (s2 : bi_St) => cI X d 33 [.ref 57, .int x0] s2 (fun (r3 : Int32) (s3 : bi_St) => K r3 s3) (fun _ _ => False)) (fun _ _ => False)))) E) : cI X (d + 1) 140 [.ref 0, .int x0] s K E := by
  show bi_T _ _ _ _ _
  refine bi_Tr 2 (s' := (2, [(0, .ref 0), (1, .int x0)], [.int x0, .ref 0], st_mm s)) rfl ?_
  refine bi_TcV (as := [.ref 0, .int x0]) rfl rfl ?_
  refine cV.mono h (fun s1 h => ?_) (fun e t h => Or.inr ⟨e, t, rfl, h⟩)
  obtain ⟨h0q0_10, h⟩ := h
  obtain ⟨h23q0_14, h⟩ := h
  refine bi_Tr 6 (s' := (17, [(0, .ref 0), (1, .int x0)], [.ref (st_gp s1 2), .ref (st_gp s1 0), .ref 57], st_mm s1)) rfl ?_
  refine bi_TcV (as := [.ref 57, .ref (st_gp s1 0), .ref (st_gp s1 2)]) rfl rfl ?_
  refine cV.mono h (fun s2 h => ?_) (fun _ _ h => h.elim)
  refine bi_Tr 3 (s' := (25, [(0, .ref 0), (1, .int x0)], [.int x0, .ref 57], st_mm s2)) rfl ?_
  refine bi_TcI (as := [.ref 57, .int x0]) rfl rfl ?_
  refine cI.mono h (fun r3 s3 h => ?_) (fun _ _ h => h.elim)
  exact bi_Tv rfl rfl (Or.inl ⟨_, _, rfl, h⟩)
/-- PolicyRows.toSee(II)I -/
theorem en_X11_toSee {X : bi_X} {d : Nat} {K : Int32 → bi_St → Prop} {E : Nat → bi_St → Prop} {s : bi_St} {x0 : Int32} {x1 : Int32}  (h : cV X d 154 [.ref 0, .int x0] s (fun (s1 : bi_St) => cV X d 157 [.ref 0, .int x1] s1 (fun (s2 : bi_St) => st_isB (st_gp s2 0) ∧ (st_isS (st_gp s2 2) ∧ (cV X d 24 [.ref 57, .ref (st_gp s2 0), .ref (st_gp s2 2)] s2 (fun (s3 : bi_St) => cI X d 7 [.ref 62, .int x0, .int x1] s3 (fun (r4 : Int32) (s4 : bi_St) => K r4 s4) (fun _ _ => False)) (fun _ _ => False)))) E) E) : cI X (d + 1) 141 [.ref 0, .int x0, .int x1] s K E := by
  show bi_T _ _ _ _ _
  refine bi_Tr 2 (s' := (2, [(0, .ref 0), (1, .int x0), (2, .int x1)], [.int x0, .ref 0], st_mm s)) rfl ?_
  refine bi_TcV (as := [.ref 0, .int x0]) rfl rfl ?_
  refine cV.mono h (fun s1 h => ?_) (fun e t h => Or.inr ⟨e, t, rfl, h⟩)
  refine bi_Tr 2 (s' := (7, [(0, .ref 0), (1, .int x0), (2, .int x1)], [.int x1, .ref 0], st_mm s1)) rfl ?_
  refine bi_TcV (as := [.ref 0, .int x1]) rfl rfl ?_
  refine cV.mono h (fun s2 h => ?_) (fun e t h => Or.inr ⟨e, t, rfl, h⟩)
  obtain ⟨h0q0_15, h⟩ := h
  obtain ⟨h23q0_19, h⟩ := h
  refine bi_Tr 6 (s' := (22, [(0, .ref 0), (1, .int x0), (2, .int x1)], [.ref (st_gp s2 2), .ref (st_gp s2 0), .ref 57], st_mm s2)) rfl ?_
  refine bi_TcV (as := [.ref 57, .ref (st_gp s2 0), .ref (st_gp s2 2)]) rfl rfl ?_
  refine cV.mono h (fun s3 h => ?_) (fun _ _ h => h.elim)
  refine bi_Tr 4 (s' := (31, [(0, .ref 0), (1, .int x0), (2, .int x1)], [.int x1, .int x0, .ref 62], st_mm s3)) rfl ?_
  refine bi_TcI (as := [.ref 62, .int x0, .int x1]) rfl rfl ?_
  refine cI.mono h (fun r4 s4 h => ?_) (fun _ _ h => h.elim)
  exact bi_Tv rfl rfl (Or.inl ⟨_, _, rfl, h⟩)
/-- PolicyRows.escapes(II)I -/
theorem en_X11_escapes {X : bi_X} {d : Nat} {K : Int32 → bi_St → Prop} {E : Nat → bi_St → Prop} {s : bi_St} {x0 : Int32} {x1 : Int32}  (h : cV X d 154 [.ref 0, .int x0] s (fun (s1 : bi_St) => cV X d 159 [.int x1, .int (2 : Int32)] s1 (fun (s2 : bi_St) => st_isB (st_gp s2 0) ∧ (st_isS (st_gp s2 2) ∧ (cV X d 24 [.ref 57, .ref (st_gp s2 0), .ref (st_gp s2 2)] s2 (fun (s3 : bi_St) => cV X d 14 [.ref 62, .int (0 : Int32), .int x0] s3 (fun (s4 : bi_St) => ((¬ x1 = 0) → K (st_g s4 62 5) s4) ∧ (¬ (¬ x1 = 0) → K (st_g s4 62 4) s4)) (fun _ _ => False)) (fun _ _ => False)))) E) E) : cI X (d + 1) 142 [.ref 0, .int x0, .int x1] s K E := by
  show bi_T _ _ _ _ _
  refine bi_Tr 2 (s' := (2, [(0, .ref 0), (1, .int x0), (2, .int x1)], [.int x0, .ref 0], st_mm s)) rfl ?_
  refine bi_TcV (as := [.ref 0, .int x0]) rfl rfl ?_
  refine cV.mono h (fun s1 h => ?_) (fun e t h => Or.inr ⟨e, t, rfl, h⟩)
  refine bi_Tr 2 (s' := (7, [(0, .ref 0), (1, .int x0), (2, .int x1)], [.int (2 : Int32), .int x1], st_mm s1)) rfl ?_
  refine bi_TcV (as := [.int x1, .int (2 : Int32)]) rfl rfl ?_
  refine cV.mono h (fun s2 h => ?_) (fun e t h => Or.inr ⟨e, t, rfl, h⟩)
  obtain ⟨h0q0_15, h⟩ := h
  obtain ⟨h23q0_19, h⟩ := h
  refine bi_Tr 6 (s' := (22, [(0, .ref 0), (1, .int x0), (2, .int x1)], [.ref (st_gp s2 2), .ref (st_gp s2 0), .ref 57], st_mm s2)) rfl ?_
  refine bi_TcV (as := [.ref 57, .ref (st_gp s2 0), .ref (st_gp s2 2)]) rfl rfl ?_
  refine cV.mono h (fun s3 h => ?_) (fun _ _ h => h.elim)
  refine bi_Tr 4 (s' := (31, [(0, .ref 0), (1, .int x0), (2, .int x1)], [.int x0, .int (0 : Int32), .ref 62], st_mm s3)) rfl ?_
  refine bi_TcV (as := [.ref 62, .int (0 : Int32), .int x0]) rfl rfl ?_
  refine cV.mono h (fun s4 h => ?_) (fun _ _ h => h.elim)
  refine bi_Tr 2 (s' := ((if ¬ x1 = 0 then 48 else 38), [(0, .ref 0), (1, .int x0), (2, .int x1)], [], st_mm s4)) rfl (bi_Tif (fun hc => ?_) (fun hc => ?_))
  · have h := h.1 hc
    refine bi_Tr 3 (s' := (55, [(0, .ref 0), (1, .int x0), (2, .int x1)], [.int (st_g s4 62 5)], st_mm s4)) rfl ?_
    exact bi_Tv rfl rfl (Or.inl ⟨_, _, rfl, h⟩)
  · have h := h.2 hc
    refine bi_Tr 4 (s' := (55, [(0, .ref 0), (1, .int x0), (2, .int x1)], [.int (st_g s4 62 4)], st_mm s4)) rfl ?_
    exact bi_Tv rfl rfl (Or.inl ⟨_, _, rfl, h⟩)
/-- PolicyRows.may(III)I -/
theorem en_X11_may {X : bi_X} {d : Nat} {K : Int32 → bi_St → Prop} {E : Nat → bi_St → Prop} {s : bi_St} {x0 : Int32} {x1 : Int32} {x2 : Int32}  (h : cV X d 154 [.ref 0, .int x0] s (fun (s1 : bi_St) => cV X d 157 [.ref 0, .int x1] s1 (fun (s2 : bi_St) => ((x2 = 0) → st_isB (st_gp s2 0) ∧ (st_isS (st_gp s2 2) ∧ (cV X d 24 [.ref 57, .ref (st_gp s2 0), .ref (st_gp s2 2)] s2 (fun (s3 : bi_St) => cV X d 26 [.ref 57, .int x0] s3 (fun (s4 : bi_St) => cV X d 27 [.ref 57, .int x1] s4 (fun (s5 : bi_St) => cI X d 31 [.ref 57, .int (0 : Int32), .int (0 : Int32)] s5 (fun (r6 : Int32) (s6 : bi_St) => ((r6 = 0) → K (0 : Int32) s6) ∧ (¬ (r6 = 0) → cI X d 31 [.ref 57, .int x2, .int (0 : Int32)] s6 (fun (r7 : Int32) (s7 : bi_St) => ((r7 = 0) → K (0 : Int32) s7) ∧ (¬ (r7 = 0) → K (1 : Int32) s7)) (fun _ _ => False))) (fun _ _ => False)) (fun _ _ => False)) (fun _ _ => False)) (fun _ _ => False)))) ∧ (¬ (x2 = 0) → ((x2 = (2 : Int32)) → st_isB (st_gp s2 0) ∧ (st_isS (st_gp s2 2) ∧ (cV X d 24 [.ref 57, .ref (st_gp s2 0), .ref (st_gp s2 2)] s2 (fun (s8 : bi_St) => cV X d 26 [.ref 57, .int x0] s8 (fun (s9 : bi_St) => cV X d 27 [.ref 57, .int x1] s9 (fun (s10 : bi_St) => cI X d 31 [.ref 57, .int (0 : Int32), .int (0 : Int32)] s10 (fun (r11 : Int32) (s11 : bi_St) => ((r11 = 0) → K (0 : Int32) s11) ∧ (¬ (r11 = 0) → cI X d 31 [.ref 57, .int x2, .int (0 : Int32)] s11 (fun (r12 : Int32) (s12 : bi_St) => ((r12 = 0) → K (0 : Int32) s12) ∧ (¬ (r12 = 0) → K (1 : Int32) s12)) (fun _ _ => False))) (fun _ _ => False)) (fun _ _ => False)) (fun _ _ => False)) (fun _ _ => False)))) ∧ (¬ (x2 = (2 : Int32)) → ((x2 = (3 : Int32)) → st_isB (st_gp s2 0) ∧ (st_isS (st_gp s2 2) ∧ (cV X d 24 [.ref 57, .ref (st_gp s2 0), .ref (st_gp s2 2)] s2 (fun (s13 : bi_St) => cV X d 26 [.ref 57, .int x0] s13 (fun (s14 : bi_St) => cV X d 27 [.ref 57, .int x1] s14 (fun (s15 : bi_St) => cI X d 31 [.ref 57, .int (0 : Int32), .int (0 : Int32)] s15 (fun (r16 : Int32) (s16 : bi_St) => ((r16 = 0) → K (0 : Int32) s16) ∧ (¬ (r16 = 0) → cI X d 31 [.ref 57, .int x2, .int (0 : Int32)] s16 (fun (r17 : Int32) (s17 : bi_St) => ((r17 = 0) → K (0 : Int32) s17) ∧ (¬ (r17 = 0) → K (1 : Int32) s17)) (fun _ _ => False))) (fun _ _ => False)) (fun _ _ => False)) (fun _ _ => False)) (fun _ _ => False)))) ∧ (¬ (x2 = (3 : Int32)) → E 100 (st_ex s2))))) E) E) : cI X (d + 1) 143 [.ref 0, .int x0, .int x1, .int x2] s K E := by
  show bi_T _ _ _ _ _
  refine bi_Tr 2 (s' := (2, [(0, .ref 0), (1, .int x0), (2, .int x1), (3, .int x2)], [.int x0, .ref 0], st_mm s)) rfl ?_
  refine bi_TcV (as := [.ref 0, .int x0]) rfl rfl ?_
  refine cV.mono h (fun s1 h => ?_) (fun e t h => Or.inr ⟨e, t, rfl, h⟩)
  refine bi_Tr 2 (s' := (7, [(0, .ref 0), (1, .int x0), (2, .int x1), (3, .int x2)], [.int x1, .ref 0], st_mm s1)) rfl ?_
  refine bi_TcV (as := [.ref 0, .int x1]) rfl rfl ?_
  refine cV.mono h (fun s2 h => ?_) (fun e t h => Or.inr ⟨e, t, rfl, h⟩)
  refine bi_Tr 2 (s' := ((if x2 = 0 then 32 else 14), [(0, .ref 0), (1, .int x0), (2, .int x1), (3, .int x2)], [], st_mm s2)) rfl (bi_Tif (fun hc => ?_) (fun hc => ?_))
  · have h := h.1 hc
    obtain ⟨h0q1_37, h⟩ := h
    obtain ⟨h23q1_41, h⟩ := h
    refine bi_Tr 6 (s' := (44, [(0, .ref 0), (1, .int x0), (2, .int x1), (3, .int x2)], [.ref (st_gp s2 2), .ref (st_gp s2 0), .ref 57], st_mm s2)) rfl ?_
    refine bi_TcV (as := [.ref 57, .ref (st_gp s2 0), .ref (st_gp s2 2)]) rfl rfl ?_
    refine cV.mono h (fun s3 h => ?_) (fun _ _ h => h.elim)
    refine bi_Tr 3 (s' := (52, [(0, .ref 0), (1, .int x0), (2, .int x1), (3, .int x2)], [.int x0, .ref 57], st_mm s3)) rfl ?_
    refine bi_TcV (as := [.ref 57, .int x0]) rfl rfl ?_
    refine cV.mono h (fun s4 h => ?_) (fun _ _ h => h.elim)
    refine bi_Tr 3 (s' := (60, [(0, .ref 0), (1, .int x0), (2, .int x1), (3, .int x2)], [.int x1, .ref 57], st_mm s4)) rfl ?_
    refine bi_TcV (as := [.ref 57, .int x1]) rfl rfl ?_
    refine cV.mono h (fun s5 h => ?_) (fun _ _ h => h.elim)
    refine bi_Tr 4 (s' := (69, [(0, .ref 0), (1, .int x0), (2, .int x1), (3, .int x2)], [.int (0 : Int32), .int (0 : Int32), .ref 57], st_mm s5)) rfl ?_
    refine bi_TcI (as := [.ref 57, .int (0 : Int32), .int (0 : Int32)]) rfl rfl ?_
    refine cI.mono h (fun r6 s6 h => ?_) (fun _ _ h => h.elim)
    refine bi_Tr 1 (s' := ((if r6 = 0 then 91 else 75), [(0, .ref 0), (1, .int x0), (2, .int x1), (3, .int x2)], [], st_mm s6)) rfl (bi_Tif (fun hc => ?_) (fun hc => ?_))
    · have h := h.1 hc
      refine bi_Tr 1 (s' := (92, [(0, .ref 0), (1, .int x0), (2, .int x1), (3, .int x2)], [.int (0 : Int32)], st_mm s6)) rfl ?_
      exact bi_Tv rfl rfl (Or.inl ⟨_, _, rfl, h⟩)
    · have h := h.2 hc
      refine bi_Tr 4 (s' := (81, [(0, .ref 0), (1, .int x0), (2, .int x1), (3, .int x2)], [.int (0 : Int32), .int x2, .ref 57], st_mm s6)) rfl ?_
      refine bi_TcI (as := [.ref 57, .int x2, .int (0 : Int32)]) rfl rfl ?_
      refine cI.mono h (fun r7 s7 h => ?_) (fun _ _ h => h.elim)
      refine bi_Tr 1 (s' := ((if r7 = 0 then 91 else 87), [(0, .ref 0), (1, .int x0), (2, .int x1), (3, .int x2)], [], st_mm s7)) rfl (bi_Tif (fun hc => ?_) (fun hc => ?_))
      · have h := h.1 hc
        refine bi_Tr 1 (s' := (92, [(0, .ref 0), (1, .int x0), (2, .int x1), (3, .int x2)], [.int (0 : Int32)], st_mm s7)) rfl ?_
        exact bi_Tv rfl rfl (Or.inl ⟨_, _, rfl, h⟩)
      · have h := h.2 hc
        refine bi_Tr 2 (s' := (92, [(0, .ref 0), (1, .int x0), (2, .int x1), (3, .int x2)], [.int (1 : Int32)], st_mm s7)) rfl ?_
        exact bi_Tv rfl rfl (Or.inl ⟨_, _, rfl, h⟩)
  · have h := h.2 hc
    refine bi_Tr 3 (s' := ((if x2 = (2 : Int32) then 32 else 19), [(0, .ref 0), (1, .int x0), (2, .int x1), (3, .int x2)], [], st_mm s2)) rfl (bi_Tif (fun hc => ?_) (fun hc => ?_))
    · have h := h.1 hc
      obtain ⟨h0q2_37, h⟩ := h
      obtain ⟨h23q2_41, h⟩ := h
      refine bi_Tr 6 (s' := (44, [(0, .ref 0), (1, .int x0), (2, .int x1), (3, .int x2)], [.ref (st_gp s2 2), .ref (st_gp s2 0), .ref 57], st_mm s2)) rfl ?_
      refine bi_TcV (as := [.ref 57, .ref (st_gp s2 0), .ref (st_gp s2 2)]) rfl rfl ?_
      refine cV.mono h (fun s8 h => ?_) (fun _ _ h => h.elim)
      refine bi_Tr 3 (s' := (52, [(0, .ref 0), (1, .int x0), (2, .int x1), (3, .int x2)], [.int x0, .ref 57], st_mm s8)) rfl ?_
      refine bi_TcV (as := [.ref 57, .int x0]) rfl rfl ?_
      refine cV.mono h (fun s9 h => ?_) (fun _ _ h => h.elim)
      refine bi_Tr 3 (s' := (60, [(0, .ref 0), (1, .int x0), (2, .int x1), (3, .int x2)], [.int x1, .ref 57], st_mm s9)) rfl ?_
      refine bi_TcV (as := [.ref 57, .int x1]) rfl rfl ?_
      refine cV.mono h (fun s10 h => ?_) (fun _ _ h => h.elim)
      refine bi_Tr 4 (s' := (69, [(0, .ref 0), (1, .int x0), (2, .int x1), (3, .int x2)], [.int (0 : Int32), .int (0 : Int32), .ref 57], st_mm s10)) rfl ?_
      refine bi_TcI (as := [.ref 57, .int (0 : Int32), .int (0 : Int32)]) rfl rfl ?_
      refine cI.mono h (fun r11 s11 h => ?_) (fun _ _ h => h.elim)
      refine bi_Tr 1 (s' := ((if r11 = 0 then 91 else 75), [(0, .ref 0), (1, .int x0), (2, .int x1), (3, .int x2)], [], st_mm s11)) rfl (bi_Tif (fun hc => ?_) (fun hc => ?_))
      · have h := h.1 hc
        refine bi_Tr 1 (s' := (92, [(0, .ref 0), (1, .int x0), (2, .int x1), (3, .int x2)], [.int (0 : Int32)], st_mm s11)) rfl ?_
        exact bi_Tv rfl rfl (Or.inl ⟨_, _, rfl, h⟩)
      · have h := h.2 hc
        refine bi_Tr 4 (s' := (81, [(0, .ref 0), (1, .int x0), (2, .int x1), (3, .int x2)], [.int (0 : Int32), .int x2, .ref 57], st_mm s11)) rfl ?_
        refine bi_TcI (as := [.ref 57, .int x2, .int (0 : Int32)]) rfl rfl ?_
        refine cI.mono h (fun r12 s12 h => ?_) (fun _ _ h => h.elim)
        refine bi_Tr 1 (s' := ((if r12 = 0 then 91 else 87), [(0, .ref 0), (1, .int x0), (2, .int x1), (3, .int x2)], [], st_mm s12)) rfl (bi_Tif (fun hc => ?_) (fun hc => ?_))
        · have h := h.1 hc
          refine bi_Tr 1 (s' := (92, [(0, .ref 0), (1, .int x0), (2, .int x1), (3, .int x2)], [.int (0 : Int32)], st_mm s12)) rfl ?_
          exact bi_Tv rfl rfl (Or.inl ⟨_, _, rfl, h⟩)
        · have h := h.2 hc
          refine bi_Tr 2 (s' := (92, [(0, .ref 0), (1, .int x0), (2, .int x1), (3, .int x2)], [.int (1 : Int32)], st_mm s12)) rfl ?_
          exact bi_Tv rfl rfl (Or.inl ⟨_, _, rfl, h⟩)
    · have h := h.2 hc
      refine bi_Tr 3 (s' := ((if x2 = (3 : Int32) then 32 else 24), [(0, .ref 0), (1, .int x0), (2, .int x1), (3, .int x2)], [], st_mm s2)) rfl (bi_Tif (fun hc => ?_) (fun hc => ?_))
      · have h := h.1 hc
        obtain ⟨h0q3_37, h⟩ := h
        obtain ⟨h23q3_41, h⟩ := h
        refine bi_Tr 6 (s' := (44, [(0, .ref 0), (1, .int x0), (2, .int x1), (3, .int x2)], [.ref (st_gp s2 2), .ref (st_gp s2 0), .ref 57], st_mm s2)) rfl ?_
        refine bi_TcV (as := [.ref 57, .ref (st_gp s2 0), .ref (st_gp s2 2)]) rfl rfl ?_
        refine cV.mono h (fun s13 h => ?_) (fun _ _ h => h.elim)
        refine bi_Tr 3 (s' := (52, [(0, .ref 0), (1, .int x0), (2, .int x1), (3, .int x2)], [.int x0, .ref 57], st_mm s13)) rfl ?_
        refine bi_TcV (as := [.ref 57, .int x0]) rfl rfl ?_
        refine cV.mono h (fun s14 h => ?_) (fun _ _ h => h.elim)
        refine bi_Tr 3 (s' := (60, [(0, .ref 0), (1, .int x0), (2, .int x1), (3, .int x2)], [.int x1, .ref 57], st_mm s14)) rfl ?_
        refine bi_TcV (as := [.ref 57, .int x1]) rfl rfl ?_
        refine cV.mono h (fun s15 h => ?_) (fun _ _ h => h.elim)
        refine bi_Tr 4 (s' := (69, [(0, .ref 0), (1, .int x0), (2, .int x1), (3, .int x2)], [.int (0 : Int32), .int (0 : Int32), .ref 57], st_mm s15)) rfl ?_
        refine bi_TcI (as := [.ref 57, .int (0 : Int32), .int (0 : Int32)]) rfl rfl ?_
        refine cI.mono h (fun r16 s16 h => ?_) (fun _ _ h => h.elim)
        refine bi_Tr 1 (s' := ((if r16 = 0 then 91 else 75), [(0, .ref 0), (1, .int x0), (2, .int x1), (3, .int x2)], [], st_mm s16)) rfl (bi_Tif (fun hc => ?_) (fun hc => ?_))
        · have h := h.1 hc
          refine bi_Tr 1 (s' := (92, [(0, .ref 0), (1, .int x0), (2, .int x1), (3, .int x2)], [.int (0 : Int32)], st_mm s16)) rfl ?_
          exact bi_Tv rfl rfl (Or.inl ⟨_, _, rfl, h⟩)
        · have h := h.2 hc
          refine bi_Tr 4 (s' := (81, [(0, .ref 0), (1, .int x0), (2, .int x1), (3, .int x2)], [.int (0 : Int32), .int x2, .ref 57], st_mm s16)) rfl ?_
          refine bi_TcI (as := [.ref 57, .int x2, .int (0 : Int32)]) rfl rfl ?_
          refine cI.mono h (fun r17 s17 h => ?_) (fun _ _ h => h.elim)
          refine bi_Tr 1 (s' := ((if r17 = 0 then 91 else 87), [(0, .ref 0), (1, .int x0), (2, .int x1), (3, .int x2)], [], st_mm s17)) rfl (bi_Tif (fun hc => ?_) (fun hc => ?_))
          · have h := h.1 hc
            refine bi_Tr 1 (s' := (92, [(0, .ref 0), (1, .int x0), (2, .int x1), (3, .int x2)], [.int (0 : Int32)], st_mm s17)) rfl ?_
            exact bi_Tv rfl rfl (Or.inl ⟨_, _, rfl, h⟩)
          · have h := h.2 hc
            refine bi_Tr 2 (s' := (92, [(0, .ref 0), (1, .int x0), (2, .int x1), (3, .int x2)], [.int (1 : Int32)], st_mm s17)) rfl ?_
            exact bi_Tv rfl rfl (Or.inl ⟨_, _, rfl, h⟩)
      · have h := h.2 hc
        exact bi_Te rfl rfl (Or.inr ⟨_, st_ex s2, rfl, h⟩)
/-- PolicyRows.see(IIZ)I -/
theorem en_X11_see {X : bi_X} {d : Nat} {K : Int32 → bi_St → Prop} {E : Nat → bi_St → Prop} {s : bi_St} {x0 : Int32} {x1 : Int32} {x2 : Int32}  (h : cV X d 154 [.ref 0, .int x0] s (fun (s1 : bi_St) => cV X d 157 [.ref 0, .int x1] s1 (fun (s2 : bi_St) => st_isS (st_gp s2 2) ∧ (cI X d 84 [.ref (st_gp s2 2), .int x0, .int x1, .int x2] s2 (fun (r3 : Int32) (s3 : bi_St) => ((¬ r3 = 0) → st_isS (st_gp s3 2) ∧ (K (st_g s3 (st_gp s3 2) 6) s3)) ∧ (¬ (¬ r3 = 0) → bi_in (2 : Int32) 3 = true ∧ (bi_in (2 : Int32) 3 = true ∧ (K (-1 : Int32) (st_p s3 76 ((2 : Int32)).toNatClampNeg ((st_g s3 76 ((2 : Int32)).toNatClampNeg) + (1 : Int32))))))) (fun _ _ => False))) E) E) : cI X (d + 1) 144 [.ref 0, .int x0, .int x1, .int x2] s K E := by
  show bi_T _ _ _ _ _
  refine bi_Tr 2 (s' := (2, [(0, .ref 0), (1, .int x0), (2, .int x1), (3, .int x2)], [.int x0, .ref 0], st_mm s)) rfl ?_
  refine bi_TcV (as := [.ref 0, .int x0]) rfl rfl ?_
  refine cV.mono h (fun s1 h => ?_) (fun e t h => Or.inr ⟨e, t, rfl, h⟩)
  refine bi_Tr 2 (s' := (7, [(0, .ref 0), (1, .int x0), (2, .int x1), (3, .int x2)], [.int x1, .ref 0], st_mm s1)) rfl ?_
  refine bi_TcV (as := [.ref 0, .int x1]) rfl rfl ?_
  refine cV.mono h (fun s2 h => ?_) (fun e t h => Or.inr ⟨e, t, rfl, h⟩)
  obtain ⟨h0q0_11, h⟩ := h
  refine bi_Tr 5 (s' := (17, [(0, .ref 0), (1, .int x0), (2, .int x1), (3, .int x2)], [.int x2, .int x1, .int x0, .ref (st_gp s2 2)], st_mm s2)) rfl ?_
  refine bi_TcI (as := [.ref (st_gp s2 2), .int x0, .int x1, .int x2]) (bi_TcO rfl rfl rfl (st_kS0 h0q0_11) rfl rfl) rfl ?_
  refine cI.mono h (fun r3 s3 h => ?_) (fun _ _ h => h.elim)
  refine bi_Tr 1 (s' := ((if ¬ r3 = 0 then 35 else 23), [(0, .ref 0), (1, .int x0), (2, .int x1), (3, .int x2)], [], st_mm s3)) rfl (bi_Tif (fun hc => ?_) (fun hc => ?_))
  · have h := h.1 hc
    obtain ⟨h0q1_36, h⟩ := h
    refine bi_Tr 2 (s' := (39, [(0, .ref 0), (1, .int x0), (2, .int x1), (3, .int x2)], [.ref (st_gp s3 2)], st_mm s3)) rfl ?_
    refine bi_Tgi (o := 0) rfl rfl rfl (st_kS0 h0q1_36) ?_
    exact bi_Tv rfl rfl (Or.inl ⟨_, _, rfl, h⟩)
  · have h := h.2 hc
    refine bi_Tr 4 (s' := (29, [(0, .ref 0), (1, .int x0), (2, .int x1), (3, .int x2)], [.int (2 : Int32), .ref 76, .int (2 : Int32), .ref 76], st_mm s3)) rfl ?_
    obtain ⟨hi, h⟩ := h
    refine bi_Tial rfl rfl rfl hi ?_
    refine bi_Tr 2 (s' := (32, [(0, .ref 0), (1, .int x0), (2, .int x1), (3, .int x2)], [.int ((st_g s3 76 ((2 : Int32)).toNatClampNeg) + (1 : Int32)), .int (2 : Int32), .ref 76], st_mm s3)) rfl ?_
    obtain ⟨hi, h⟩ := h
    refine bi_Tias rfl rfl hi ?_
    refine bi_Tr 1 (s' := (34, [(0, .ref 0), (1, .int x0), (2, .int x1), (3, .int x2)], [.int (-1 : Int32)], st_mm (st_p s3 76 ((2 : Int32)).toNatClampNeg ((st_g s3 76 ((2 : Int32)).toNatClampNeg) + (1 : Int32))))) rfl ?_
    exact bi_Tv rfl rfl (Or.inl ⟨_, _, rfl, h⟩)
/-- PolicyRows.forget()V -/
theorem en_X11_forget {X : bi_X} {d : Nat} {K : bi_St → Prop} {E : Nat → bi_St → Prop} {s : bi_St}   (h : st_isS (st_gp s 2) ∧ (cV X d 85 [.ref (st_gp s 2)] s (fun (s1 : bi_St) => K s1) (fun _ _ => False))) : cV X (d + 1) 145 [.ref 0] s K E := by
  show bi_T _ _ _ _ _
  obtain ⟨h0q0_1, h⟩ := h
  refine bi_Tr 2 (s' := (4, [(0, .ref 0)], [.ref (st_gp s 2)], st_mm s)) rfl ?_
  refine bi_TcV (as := [.ref (st_gp s 2)]) (bi_TcO rfl rfl rfl (st_kS0 h0q0_1) rfl rfl) rfl ?_
  refine cV.mono h (fun s1 h => ?_) (fun _ _ h => h.elim)
  exact bi_Tv rfl rfl (Or.inl ⟨_, rfl, h⟩)
/-- PolicyRows.meant(I)I -/
theorem en_X11_meant {X : bi_X} {d : Nat} {K : Int32 → bi_St → Prop} {E : Nat → bi_St → Prop} {s : bi_St} {x0 : Int32}  (h : cV X d 159 [.int x0, .int (3 : Int32)] s (fun (s1 : bi_St) => st_isB (st_gp s1 0) ∧ (st_isS (st_gp s1 2) ∧ (cV X d 24 [.ref 57, .ref (st_gp s1 0), .ref (st_gp s1 2)] s1 (fun (s2 : bi_St) => ((¬ x0 = (2 : Int32)) → cV X d 14 [.ref 62, .int (1 : Int32), .int (-1 : Int32)] s2 (fun (s3 : bi_St) => ((¬ x0 = 0) → K (st_g s3 62 5) s3) ∧ (¬ (¬ x0 = 0) → K (st_g s3 62 4) s3)) (fun _ _ => False)) ∧ (¬ (¬ x0 = (2 : Int32)) → cI X d 16 [.ref 62] s2 (fun (r4 : Int32) (s4 : bi_St) => ((¬ r4 = 0) → K (0 : Int32) s4) ∧ (¬ (¬ r4 = 0) → K (1 : Int32) s4)) (fun _ _ => False))) (fun _ _ => False)))) E) : cI X (d + 1) 146 [.ref 0, .int x0] s K E := by
  show bi_T _ _ _ _ _
  refine bi_Tr 2 (s' := (2, [(0, .ref 0), (1, .int x0)], [.int (3 : Int32), .int x0], st_mm s)) rfl ?_
  refine bi_TcV (as := [.int x0, .int (3 : Int32)]) rfl rfl ?_
  refine cV.mono h (fun s1 h => ?_) (fun e t h => Or.inr ⟨e, t, rfl, h⟩)
  obtain ⟨h0q0_10, h⟩ := h
  obtain ⟨h23q0_14, h⟩ := h
  refine bi_Tr 6 (s' := (17, [(0, .ref 0), (1, .int x0)], [.ref (st_gp s1 2), .ref (st_gp s1 0), .ref 57], st_mm s1)) rfl ?_
  refine bi_TcV (as := [.ref 57, .ref (st_gp s1 0), .ref (st_gp s1 2)]) rfl rfl ?_
  refine cV.mono h (fun s2 h => ?_) (fun _ _ h => h.elim)
  refine bi_Tr 3 (s' := ((if ¬ x0 = (2 : Int32) then 41 else 25), [(0, .ref 0), (1, .int x0)], [], st_mm s2)) rfl (bi_Tif (fun hc => ?_) (fun hc => ?_))
  · have h := h.1 hc
    refine bi_Tr 4 (s' := (47, [(0, .ref 0), (1, .int x0)], [.int (-1 : Int32), .int (1 : Int32), .ref 62], st_mm s2)) rfl ?_
    refine bi_TcV (as := [.ref 62, .int (1 : Int32), .int (-1 : Int32)]) rfl rfl ?_
    refine cV.mono h (fun s3 h => ?_) (fun _ _ h => h.elim)
    refine bi_Tr 2 (s' := ((if ¬ x0 = 0 then 64 else 54), [(0, .ref 0), (1, .int x0)], [], st_mm s3)) rfl (bi_Tif (fun hc => ?_) (fun hc => ?_))
    · have h := h.1 hc
      refine bi_Tr 3 (s' := (71, [(0, .ref 0), (1, .int x0)], [.int (st_g s3 62 5)], st_mm s3)) rfl ?_
      exact bi_Tv rfl rfl (Or.inl ⟨_, _, rfl, h⟩)
    · have h := h.2 hc
      refine bi_Tr 4 (s' := (71, [(0, .ref 0), (1, .int x0)], [.int (st_g s3 62 4)], st_mm s3)) rfl ?_
      exact bi_Tv rfl rfl (Or.inl ⟨_, _, rfl, h⟩)
  · have h := h.2 hc
    refine bi_Tr 2 (s' := (29, [(0, .ref 0), (1, .int x0)], [.ref 62], st_mm s2)) rfl ?_
    refine bi_TcI (as := [.ref 62]) rfl rfl ?_
    refine cI.mono h (fun r4 s4 h => ?_) (fun _ _ h => h.elim)
    refine bi_Tr 1 (s' := ((if ¬ r4 = 0 then 39 else 35), [(0, .ref 0), (1, .int x0)], [], st_mm s4)) rfl (bi_Tif (fun hc => ?_) (fun hc => ?_))
    · have h := h.1 hc
      refine bi_Tr 1 (s' := (40, [(0, .ref 0), (1, .int x0)], [.int (0 : Int32)], st_mm s4)) rfl ?_
      exact bi_Tv rfl rfl (Or.inl ⟨_, _, rfl, h⟩)
    · have h := h.2 hc
      refine bi_Tr 2 (s' := (40, [(0, .ref 0), (1, .int x0)], [.int (1 : Int32)], st_mm s4)) rfl ?_
      exact bi_Tv rfl rfl (Or.inl ⟨_, _, rfl, h⟩)
/-- PolicyRows.look(I)I -/
theorem en_X11_look {X : bi_X} {d : Nat} {K : Int32 → bi_St → Prop} {E : Nat → bi_St → Prop} {s : bi_St} {x0 : Int32}  (h : cV X d 159 [.int x0, .int (2 : Int32)] s (fun (s1 : bi_St) => st_isB (st_gp s1 0) ∧ (st_isS (st_gp s1 2) ∧ (cV X d 24 [.ref 57, .ref (st_gp s1 0), .ref (st_gp s1 2)] s1 (fun (s2 : bi_St) => cV X d 11 [.ref 62] s2 (fun (s3 : bi_St) => cV X d 14 [.ref 62, .int (2 : Int32), .int (-1 : Int32)] s3 (fun (s4 : bi_St) => cI X d 13 [.ref 62] s4 (fun (r5 : Int32) (s5 : bi_St) => ((¬ x0 = 0) → ((¬ r5 = (-1 : Int32)) → cI X d 12 [.ref 62, .int r5] s5 (fun (r6 : Int32) (s6 : bi_St) => K r6 s6) (fun _ _ => False)) ∧ (¬ (¬ r5 = (-1 : Int32)) → K (0 : Int32) s5)) ∧ (¬ (¬ x0 = 0) → K r5 s5)) (fun _ _ => False)) (fun _ _ => False)) (fun _ _ => False)) (fun _ _ => False)))) E) : cI X (d + 1) 147 [.ref 0, .int x0] s K E := by
  show bi_T _ _ _ _ _
  refine bi_Tr 2 (s' := (2, [(0, .ref 0), (1, .int x0)], [.int (2 : Int32), .int x0], st_mm s)) rfl ?_
  refine bi_TcV (as := [.int x0, .int (2 : Int32)]) rfl rfl ?_
  refine cV.mono h (fun s1 h => ?_) (fun e t h => Or.inr ⟨e, t, rfl, h⟩)
  obtain ⟨h0q0_10, h⟩ := h
  obtain ⟨h23q0_14, h⟩ := h
  refine bi_Tr 6 (s' := (17, [(0, .ref 0), (1, .int x0)], [.ref (st_gp s1 2), .ref (st_gp s1 0), .ref 57], st_mm s1)) rfl ?_
  refine bi_TcV (as := [.ref 57, .ref (st_gp s1 0), .ref (st_gp s1 2)]) rfl rfl ?_
  refine cV.mono h (fun s2 h => ?_) (fun _ _ h => h.elim)
  refine bi_Tr 2 (s' := (24, [(0, .ref 0), (1, .int x0)], [.ref 62], st_mm s2)) rfl ?_
  refine bi_TcV (as := [.ref 62]) rfl rfl ?_
  refine cV.mono h (fun s3 h => ?_) (fun _ _ h => h.elim)
  refine bi_Tr 4 (s' := (33, [(0, .ref 0), (1, .int x0)], [.int (-1 : Int32), .int (2 : Int32), .ref 62], st_mm s3)) rfl ?_
  refine bi_TcV (as := [.ref 62, .int (2 : Int32), .int (-1 : Int32)]) rfl rfl ?_
  refine cV.mono h (fun s4 h => ?_) (fun _ _ h => h.elim)
  refine bi_Tr 2 (s' := (40, [(0, .ref 0), (1, .int x0)], [.ref 62], st_mm s4)) rfl ?_
  refine bi_TcI (as := [.ref 62]) rfl rfl ?_
  refine cI.mono h (fun r5 s5 h => ?_) (fun _ _ h => h.elim)
  refine bi_Tr 3 (s' := ((if ¬ x0 = 0 then 50 else 48), [(2, .int r5), (0, .ref 0), (1, .int x0)], [], st_mm s5)) rfl (bi_Tif (fun hc => ?_) (fun hc => ?_))
  · have h := h.1 hc
    refine bi_Tr 3 (s' := ((if ¬ r5 = (-1 : Int32) then 59 else 55), [(2, .int r5), (0, .ref 0), (1, .int x0)], [], st_mm s5)) rfl (bi_Tif (fun hc => ?_) (fun hc => ?_))
    · have h := h.1 hc
      refine bi_Tr 3 (s' := (64, [(2, .int r5), (0, .ref 0), (1, .int x0)], [.int r5, .ref 62], st_mm s5)) rfl ?_
      refine bi_TcI (as := [.ref 62, .int r5]) rfl rfl ?_
      refine cI.mono h (fun r6 s6 h => ?_) (fun _ _ h => h.elim)
      exact bi_Tv rfl rfl (Or.inl ⟨_, _, rfl, h⟩)
    · have h := h.2 hc
      refine bi_Tr 2 (s' := (67, [(2, .int r5), (0, .ref 0), (1, .int x0)], [.int (0 : Int32)], st_mm s5)) rfl ?_
      exact bi_Tv rfl rfl (Or.inl ⟨_, _, rfl, h⟩)
  · have h := h.2 hc
    refine bi_Tr 1 (s' := (49, [(2, .int r5), (0, .ref 0), (1, .int x0)], [.int r5], st_mm s5)) rfl ?_
    exact bi_Tv rfl rfl (Or.inl ⟨_, _, rfl, h⟩)
/-- PolicyRows.lapses(III)I -/
theorem en_X11_lapses {X : bi_X} {d : Nat} {K : Int32 → bi_St → Prop} {E : Nat → bi_St → Prop} {s : bi_St} {x0 : Int32} {x1 : Int32} {x2 : Int32}  (h : cV X d 154 [.ref 0, .int x0] s (fun (s1 : bi_St) => cV X d 157 [.ref 0, .int x1] s1 (fun (s2 : bi_St) => ((x2 < 0) → E 101 (st_ex s2)) ∧ (¬ (x2 < 0) → ((x2 ≤ (10 : Int32)) → st_isB (st_gp s2 0) ∧ (st_isS (st_gp s2 2) ∧ (cV X d 24 [.ref 57, .ref (st_gp s2 0), .ref (st_gp s2 2)] s2 (fun (s3 : bi_St) => cI X d 9 [.ref 62, .int x0, .int x1, .int x2] s3 (fun (r4 : Int32) (s4 : bi_St) => K r4 s4) (fun _ _ => False)) (fun _ _ => False)))) ∧ (¬ (x2 ≤ (10 : Int32)) → E 101 (st_ex s2)))) E) E) : cI X (d + 1) 148 [.ref 0, .int x0, .int x1, .int x2] s K E := by
  show bi_T _ _ _ _ _
  refine bi_Tr 2 (s' := (2, [(0, .ref 0), (1, .int x0), (2, .int x1), (3, .int x2)], [.int x0, .ref 0], st_mm s)) rfl ?_
  refine bi_TcV (as := [.ref 0, .int x0]) rfl rfl ?_
  refine cV.mono h (fun s1 h => ?_) (fun e t h => Or.inr ⟨e, t, rfl, h⟩)
  refine bi_Tr 2 (s' := (7, [(0, .ref 0), (1, .int x0), (2, .int x1), (3, .int x2)], [.int x1, .ref 0], st_mm s1)) rfl ?_
  refine bi_TcV (as := [.ref 0, .int x1]) rfl rfl ?_
  refine cV.mono h (fun s2 h => ?_) (fun e t h => Or.inr ⟨e, t, rfl, h⟩)
  refine bi_Tr 2 (s' := ((if x2 < 0 then 20 else 14), [(0, .ref 0), (1, .int x0), (2, .int x1), (3, .int x2)], [], st_mm s2)) rfl (bi_Tif (fun hc => ?_) (fun hc => ?_))
  · have h := h.1 hc
    exact bi_Te rfl rfl (Or.inr ⟨_, st_ex s2, rfl, h⟩)
  · have h := h.2 hc
    refine bi_Tr 3 (s' := ((if x2 ≤ (10 : Int32) then 28 else 20), [(0, .ref 0), (1, .int x0), (2, .int x1), (3, .int x2)], [], st_mm s2)) rfl (bi_Tif (fun hc => ?_) (fun hc => ?_))
    · have h := h.1 hc
      obtain ⟨h0q2_33, h⟩ := h
      obtain ⟨h23q2_37, h⟩ := h
      refine bi_Tr 6 (s' := (40, [(0, .ref 0), (1, .int x0), (2, .int x1), (3, .int x2)], [.ref (st_gp s2 2), .ref (st_gp s2 0), .ref 57], st_mm s2)) rfl ?_
      refine bi_TcV (as := [.ref 57, .ref (st_gp s2 0), .ref (st_gp s2 2)]) rfl rfl ?_
      refine cV.mono h (fun s3 h => ?_) (fun _ _ h => h.elim)
      refine bi_Tr 5 (s' := (50, [(0, .ref 0), (1, .int x0), (2, .int x1), (3, .int x2)], [.int x2, .int x1, .int x0, .ref 62], st_mm s3)) rfl ?_
      refine bi_TcI (as := [.ref 62, .int x0, .int x1, .int x2]) rfl rfl ?_
      refine cI.mono h (fun r4 s4 h => ?_) (fun _ _ h => h.elim)
      exact bi_Tv rfl rfl (Or.inl ⟨_, _, rfl, h⟩)
    · have h := h.2 hc
      exact bi_Te rfl rfl (Or.inr ⟨_, st_ex s2, rfl, h⟩)
def at_X11_years_63 (X : bi_X) (d : Nat) (K : Int32 → bi_St → Prop) (E : Nat → bi_St → Prop) (s : bi_St) (y2 : Int32) (y3 : Int32) (y4 : Int32) (y5 : Int32) : Prop := bi_T X d 149 (63, [(0, .ref 0), (2, .int y2), (3, .int y3), (4, .int y4), (5, .int y5)], [], st_mm s) (st_RI K E)
theorem go_X11_years_63 {X : bi_X} {d : Nat} {K : Int32 → bi_St → Prop} {E : Nat → bi_St → Prop}  {s : bi_St} {y2 : Int32} {y3 : Int32} {y4 : Int32} {y5 : Int32}  (h : ((y2 ≤ y5) → ((¬ y3 = 0) → ((¬ y3 = (1 : Int32)) → cI X d 3 [.ref 62] s (fun (r4 : Int32) (s4 : bi_St) => K r4 s4) (fun _ _ => False)) ∧ (¬ (¬ y3 = (1 : Int32)) → K (st_g s 45 0) s)) ∧ (¬ (¬ y3 = 0) → K y4 s)) ∧ (¬ (y2 ≤ y5) → st_isB (st_gp s 0) ∧ ((((st_g s (st_gp s 0) 1) ≤ 0) → ((¬ y3 = 0) → ((¬ y3 = (1 : Int32)) → cI X d 3 [.ref 62] s (fun (r5 : Int32) (s5 : bi_St) => K r5 s5) (fun _ _ => False)) ∧ (¬ (¬ y3 = (1 : Int32)) → K (st_g s 45 0) s)) ∧ (¬ (¬ y3 = 0) → K y4 s)) ∧ (¬ ((st_g s (st_gp s 0) 1) ≤ 0) → cI X d 120 [.ref 61] s (fun (r6 : Int32) (s6 : bi_St) => ((r6 = 0) → at_X11_years_63 X (d + 1) K E s6 (y2) (y3) ((y4 + (0 : Int32))) ((y5 + (1 : Int32)))) ∧ (¬ (r6 = 0) → at_X11_years_63 X (d + 1) K E s6 (y2) (y3) ((y4 + (1 : Int32))) ((y5 + (1 : Int32))))) (fun _ _ => False))))) : at_X11_years_63 X (d + 1) K E s y2 y3 y4 y5 := by
  show bi_T _ _ _ _ _
  refine bi_Tr 3 (s' := ((if y2 ≤ y5 then 105 else 69), [(0, .ref 0), (2, .int y2), (3, .int y3), (4, .int y4), (5, .int y5)], [], st_mm s)) rfl (bi_Tif (fun hc => ?_) (fun hc => ?_))
  · have h := h.1 hc
    refine bi_Tr 2 (s' := ((if ¬ y3 = 0 then 112 else 109), [(0, .ref 0), (2, .int y2), (3, .int y3), (4, .int y4), (5, .int y5)], [], st_mm s)) rfl (bi_Tif (fun hc => ?_) (fun hc => ?_))
    · have h := h.1 hc
      refine bi_Tr 3 (s' := ((if ¬ y3 = (1 : Int32) then 127 else 117), [(0, .ref 0), (2, .int y2), (3, .int y3), (4, .int y4), (5, .int y5)], [], st_mm s)) rfl (bi_Tif (fun hc => ?_) (fun hc => ?_))
      · have h := h.1 hc
        refine bi_Tr 2 (s' := (131, [(0, .ref 0), (2, .int y2), (3, .int y3), (4, .int y4), (5, .int y5)], [.ref 62], st_mm s)) rfl ?_
        refine bi_TcI (as := [.ref 62]) rfl rfl ?_
        refine cI.mono h (fun r4 s4 h => ?_) (fun _ _ h => h.elim)
        exact bi_Tv rfl rfl (Or.inl ⟨_, _, rfl, h⟩)
      · have h := h.2 hc
        refine bi_Tr 4 (s' := (134, [(0, .ref 0), (2, .int y2), (3, .int y3), (4, .int y4), (5, .int y5)], [.int (st_g s 45 0)], st_mm s)) rfl ?_
        exact bi_Tv rfl rfl (Or.inl ⟨_, _, rfl, h⟩)
    · have h := h.2 hc
      refine bi_Tr 1 (s' := (111, [(0, .ref 0), (2, .int y2), (3, .int y3), (4, .int y4), (5, .int y5)], [.int y4], st_mm s)) rfl ?_
      exact bi_Tv rfl rfl (Or.inl ⟨_, _, rfl, h⟩)
  · have h := h.2 hc
    obtain ⟨h0q1_70, h⟩ := h
    refine bi_Tr 2 (s' := (73, [(0, .ref 0), (2, .int y2), (3, .int y3), (4, .int y4), (5, .int y5)], [.ref (st_gp s 0)], st_mm s)) rfl ?_
    refine bi_Tgi (o := 0) rfl rfl rfl (st_kB0 h0q1_70) ?_
    refine bi_Tr 1 (s' := ((if (st_g s (st_gp s 0) 1) ≤ 0 then 105 else 79), [(0, .ref 0), (2, .int y2), (3, .int y3), (4, .int y4), (5, .int y5)], [], st_mm s)) rfl (bi_Tif (fun hc => ?_) (fun hc => ?_))
    · have h := h.1 hc
      refine bi_Tr 2 (s' := ((if ¬ y3 = 0 then 112 else 109), [(0, .ref 0), (2, .int y2), (3, .int y3), (4, .int y4), (5, .int y5)], [], st_mm s)) rfl (bi_Tif (fun hc => ?_) (fun hc => ?_))
      · have h := h.1 hc
        refine bi_Tr 3 (s' := ((if ¬ y3 = (1 : Int32) then 127 else 117), [(0, .ref 0), (2, .int y2), (3, .int y3), (4, .int y4), (5, .int y5)], [], st_mm s)) rfl (bi_Tif (fun hc => ?_) (fun hc => ?_))
        · have h := h.1 hc
          refine bi_Tr 2 (s' := (131, [(0, .ref 0), (2, .int y2), (3, .int y3), (4, .int y4), (5, .int y5)], [.ref 62], st_mm s)) rfl ?_
          refine bi_TcI (as := [.ref 62]) rfl rfl ?_
          refine cI.mono h (fun r5 s5 h => ?_) (fun _ _ h => h.elim)
          exact bi_Tv rfl rfl (Or.inl ⟨_, _, rfl, h⟩)
        · have h := h.2 hc
          refine bi_Tr 4 (s' := (134, [(0, .ref 0), (2, .int y2), (3, .int y3), (4, .int y4), (5, .int y5)], [.int (st_g s 45 0)], st_mm s)) rfl ?_
          exact bi_Tv rfl rfl (Or.inl ⟨_, _, rfl, h⟩)
      · have h := h.2 hc
        refine bi_Tr 1 (s' := (111, [(0, .ref 0), (2, .int y2), (3, .int y3), (4, .int y4), (5, .int y5)], [.int y4], st_mm s)) rfl ?_
        exact bi_Tv rfl rfl (Or.inl ⟨_, _, rfl, h⟩)
    · have h := h.2 hc
      refine bi_Tr 3 (s' := (85, [(0, .ref 0), (2, .int y2), (3, .int y3), (4, .int y4), (5, .int y5)], [.ref 61, .int y4], st_mm s)) rfl ?_
      refine bi_TcI (as := [.ref 61]) rfl rfl ?_
      refine cI.mono h (fun r6 s6 h => ?_) (fun _ _ h => h.elim)
      refine bi_Tr 1 (s' := ((if r6 = 0 then 95 else 91), [(0, .ref 0), (2, .int y2), (3, .int y3), (4, .int y4), (5, .int y5)], [.int y4], st_mm s6)) rfl (bi_Tif (fun hc => ?_) (fun hc => ?_))
      · have h := h.1 hc
        refine bi_Tr 5 (s' := (63, [(5, .int (y5 + (1 : Int32))), (4, .int (y4 + (0 : Int32))), (0, .ref 0), (2, .int y2), (3, .int y3)], [], st_mm s6)) rfl ?_
        exact bi_Tww h rfl rfl ⟨rfl, rfl, rfl, rfl, rfl, trivial⟩
      · have h := h.2 hc
        refine bi_Tr 6 (s' := (63, [(5, .int (y5 + (1 : Int32))), (4, .int (y4 + (1 : Int32))), (0, .ref 0), (2, .int y2), (3, .int y3)], [], st_mm s6)) rfl ?_
        exact bi_Tww h rfl rfl ⟨rfl, rfl, rfl, rfl, rfl, trivial⟩
/-- PolicyRows.years(III)I -/
theorem en_X11_years {X : bi_X} {d : Nat} {K : Int32 → bi_St → Prop} {E : Nat → bi_St → Prop} {s : bi_St} {x0 : Int32} {x1 : Int32} {x2 : Int32}  (h : cV X d 159 [.int x2, .int (3 : Int32)] s (fun (s1 : bi_St) => ((x1 < 0) → E 101 (st_ex s1)) ∧ (¬ (x1 < 0) → ((x1 ≤ (60 : Int32)) → st_isS (st_gp s1 2) ∧ (cV X d 72 [.ref 45, .ref (st_gp s1 2)] s1 (fun (s2 : bi_St) => st_isB (st_gp s2 0) ∧ (cV X d 24 [.ref 57, .ref (st_gp s2 0), .ref 45] s2 (fun (s3 : bi_St) => at_X11_years_63 X (d + 1) K E (st_p s3 61 1 x0) (x1) (x2) ((0 : Int32)) ((0 : Int32))) (fun _ _ => False))) (fun _ _ => False))) ∧ (¬ (x1 ≤ (60 : Int32)) → E 101 (st_ex s1)))) E) : cI X (d + 1) 149 [.ref 0, .int x0, .int x1, .int x2] s K E := by
  show bi_T _ _ _ _ _
  refine bi_Tr 2 (s' := (2, [(0, .ref 0), (1, .int x0), (2, .int x1), (3, .int x2)], [.int (3 : Int32), .int x2], st_mm s)) rfl ?_
  refine bi_TcV (as := [.int x2, .int (3 : Int32)]) rfl rfl ?_
  refine cV.mono h (fun s1 h => ?_) (fun e t h => Or.inr ⟨e, t, rfl, h⟩)
  refine bi_Tr 2 (s' := ((if x1 < 0 then 15 else 9), [(0, .ref 0), (1, .int x0), (2, .int x1), (3, .int x2)], [], st_mm s1)) rfl (bi_Tif (fun hc => ?_) (fun hc => ?_))
  · have h := h.1 hc
    exact bi_Te rfl rfl (Or.inr ⟨_, st_ex s1, rfl, h⟩)
  · have h := h.2 hc
    refine bi_Tr 3 (s' := ((if x1 ≤ (60 : Int32) then 23 else 15), [(0, .ref 0), (1, .int x0), (2, .int x1), (3, .int x2)], [], st_mm s1)) rfl (bi_Tif (fun hc => ?_) (fun hc => ?_))
    · have h := h.1 hc
      obtain ⟨h0q2_28, h⟩ := h
      refine bi_Tr 4 (s' := (31, [(0, .ref 0), (1, .int x0), (2, .int x1), (3, .int x2)], [.ref (st_gp s1 2), .ref 45], st_mm s1)) rfl ?_
      refine bi_TcV (as := [.ref 45, .ref (st_gp s1 2)]) rfl rfl ?_
      refine cV.mono h (fun s2 h => ?_) (fun _ _ h => h.elim)
      obtain ⟨h0q2_39, h⟩ := h
      refine bi_Tr 6 (s' := (46, [(0, .ref 0), (1, .int x0), (2, .int x1), (3, .int x2)], [.ref 45, .ref (st_gp s2 0), .ref 57], st_mm s2)) rfl ?_
      refine bi_TcV (as := [.ref 57, .ref (st_gp s2 0), .ref 45]) rfl rfl ?_
      refine cV.mono h (fun s3 h => ?_) (fun _ _ h => h.elim)
      refine bi_Tr 8 (s' := (63, [(5, .int (0 : Int32)), (4, .int (0 : Int32)), (0, .ref 0), (1, .int x0), (2, .int x1), (3, .int x2)], [], st_mm (st_p s3 61 1 x0))) rfl ?_
      exact bi_Tww h rfl rfl ⟨rfl, rfl, rfl, rfl, rfl, trivial⟩
    · have h := h.2 hc
      exact bi_Te rfl rfl (Or.inr ⟨_, st_ex s1, rfl, h⟩)
/-- PolicyRows.image()V -/
theorem en_X11_image {X : bi_X} {d : Nat} {K : bi_St → Prop} {E : Nat → bi_St → Prop} {s : bi_St}   (h : st_isS (st_gp s 2) ∧ (cV X d 72 [.ref 51, .ref (st_gp s 2)] s (fun (s1 : bi_St) => K (st_p s1 0 14 (1 : Int32))) (fun _ _ => False))) : cV X (d + 1) 150 [.ref 0] s K E := by
  show bi_T _ _ _ _ _
  obtain ⟨h0q0_5, h⟩ := h
  refine bi_Tr 4 (s' := (8, [(0, .ref 0)], [.ref (st_gp s 2), .ref 51], st_mm s)) rfl ?_
  refine bi_TcV (as := [.ref 51, .ref (st_gp s 2)]) rfl rfl ?_
  refine cV.mono h (fun s1 h => ?_) (fun _ _ h => h.elim)
  refine bi_Tr 2 (s' := (13, [(0, .ref 0)], [.int (1 : Int32), .ref 0], st_mm s1)) rfl ?_
  refine bi_Tpz rfl rfl rfl rfl rfl rfl ?_
  exact bi_Tv rfl rfl (Or.inl ⟨_, rfl, h⟩)
/-- PolicyRows.restore()Z -/
theorem en_X11_restore {X : bi_X} {d : Nat} {K : Int32 → bi_St → Prop} {E : Nat → bi_St → Prop} {s : bi_St}   (h : ((¬ (st_g s 0 14) = 0) → st_isS (st_gp s 2) ∧ (cV X d 72 [.ref (st_gp s 2), .ref 51] s (fun (s1 : bi_St) => K (1 : Int32) s1) (fun _ _ => False))) ∧ (¬ (¬ (st_g s 0 14) = 0) → K (0 : Int32) s)) : cI X (d + 1) 151 [.ref 0] s K E := by
  show bi_T _ _ _ _ _
  refine bi_Tr 3 (s' := ((if ¬ (st_g s 0 14) = 0 then 9 else 7), [(0, .ref 0)], [], st_mm s)) rfl (bi_Tif (fun hc => ?_) (fun hc => ?_))
  · have h := h.1 hc
    obtain ⟨h0q1_10, h⟩ := h
    refine bi_Tr 4 (s' := (17, [(0, .ref 0)], [.ref 51, .ref (st_gp s 2)], st_mm s)) rfl ?_
    refine bi_TcV (as := [.ref (st_gp s 2), .ref 51]) (bi_TcO rfl rfl rfl (st_kS0 h0q1_10) rfl rfl) rfl ?_
    refine cV.mono h (fun s1 h => ?_) (fun _ _ h => h.elim)
    refine bi_Tr 1 (s' := (21, [(0, .ref 0)], [.int (1 : Int32)], st_mm s1)) rfl ?_
    exact bi_Tv rfl rfl (Or.inl ⟨_, _, rfl, h⟩)
  · have h := h.2 hc
    refine bi_Tr 1 (s' := (8, [(0, .ref 0)], [.int (0 : Int32)], st_mm s)) rfl ?_
    exact bi_Tv rfl rfl (Or.inl ⟨_, _, rfl, h⟩)
/-- PolicyRows.endReading(Z)V -/
theorem en_X11_endReading {X : bi_X} {d : Nat} {K : bi_St → Prop} {E : Nat → bi_St → Prop} {s : bi_St} {x0 : Int32}  (h : ((x0 = 0) → ((¬ x0 = 0) → K (st_p (st_p s 1 1 (0 : Int32)) 0 15 (st_g (st_p s 1 1 (0 : Int32)) 1 10))) ∧ (¬ (¬ x0 = 0) → bi_in (0 : Int32) 3 = true ∧ (bi_in (0 : Int32) 3 = true ∧ (K (st_p (st_p (st_p s 1 1 (0 : Int32)) 0 15 (st_g (st_p s 1 1 (0 : Int32)) 1 10)) 76 ((0 : Int32)).toNatClampNeg ((st_g (st_p (st_p s 1 1 (0 : Int32)) 0 15 (st_g (st_p s 1 1 (0 : Int32)) 1 10)) 76 ((0 : Int32)).toNatClampNeg) + (1 : Int32))))))) ∧ (¬ (x0 = 0) → ((¬ x0 = 0) → K (st_p (st_p s 1 1 (0 : Int32)) 0 15 (-1 : Int32))) ∧ (¬ (¬ x0 = 0) → bi_in (0 : Int32) 3 = true ∧ (bi_in (0 : Int32) 3 = true ∧ (K (st_p (st_p (st_p s 1 1 (0 : Int32)) 0 15 (-1 : Int32)) 76 ((0 : Int32)).toNatClampNeg ((st_g (st_p (st_p s 1 1 (0 : Int32)) 0 15 (-1 : Int32)) 76 ((0 : Int32)).toNatClampNeg) + (1 : Int32)))))))) : cV X d 152 [.ref 0, .int x0] s K E := by
  show bi_T _ _ _ _ _
  refine bi_Tr 7 (s' := ((if x0 = 0 then 17 else 13), [(0, .ref 0), (1, .int x0)], [.ref 0], st_mm (st_p s 1 1 (0 : Int32)))) rfl (bi_Tif (fun hc => ?_) (fun hc => ?_))
  · have h := h.1 hc
    refine bi_Tr 6 (s' := ((if ¬ x0 = 0 then 41 else 31), [(0, .ref 0), (1, .int x0)], [], st_mm (st_p (st_p s 1 1 (0 : Int32)) 0 15 (st_g (st_p s 1 1 (0 : Int32)) 1 10)))) rfl (bi_Tif (fun hc => ?_) (fun hc => ?_))
    · have h := h.1 hc
      exact bi_Tv rfl rfl (Or.inl ⟨_, rfl, h⟩)
    · have h := h.2 hc
      refine bi_Tr 4 (s' := (37, [(0, .ref 0), (1, .int x0)], [.int (0 : Int32), .ref 76, .int (0 : Int32), .ref 76], st_mm (st_p (st_p s 1 1 (0 : Int32)) 0 15 (st_g (st_p s 1 1 (0 : Int32)) 1 10)))) rfl ?_
      obtain ⟨hi, h⟩ := h
      refine bi_Tial rfl rfl rfl hi ?_
      refine bi_Tr 2 (s' := (40, [(0, .ref 0), (1, .int x0)], [.int ((st_g (st_p (st_p s 1 1 (0 : Int32)) 0 15 (st_g (st_p s 1 1 (0 : Int32)) 1 10)) 76 ((0 : Int32)).toNatClampNeg) + (1 : Int32)), .int (0 : Int32), .ref 76], st_mm (st_p (st_p s 1 1 (0 : Int32)) 0 15 (st_g (st_p s 1 1 (0 : Int32)) 1 10)))) rfl ?_
      obtain ⟨hi, h⟩ := h
      refine bi_Tias rfl rfl hi ?_
      exact bi_Tv rfl rfl (Or.inl ⟨_, rfl, h⟩)
  · have h := h.2 hc
    refine bi_Tr 5 (s' := ((if ¬ x0 = 0 then 41 else 31), [(0, .ref 0), (1, .int x0)], [], st_mm (st_p (st_p s 1 1 (0 : Int32)) 0 15 (-1 : Int32)))) rfl (bi_Tif (fun hc => ?_) (fun hc => ?_))
    · have h := h.1 hc
      exact bi_Tv rfl rfl (Or.inl ⟨_, rfl, h⟩)
    · have h := h.2 hc
      refine bi_Tr 4 (s' := (37, [(0, .ref 0), (1, .int x0)], [.int (0 : Int32), .ref 76, .int (0 : Int32), .ref 76], st_mm (st_p (st_p s 1 1 (0 : Int32)) 0 15 (-1 : Int32)))) rfl ?_
      obtain ⟨hi, h⟩ := h
      refine bi_Tial rfl rfl rfl hi ?_
      refine bi_Tr 2 (s' := (40, [(0, .ref 0), (1, .int x0)], [.int ((st_g (st_p (st_p s 1 1 (0 : Int32)) 0 15 (-1 : Int32)) 76 ((0 : Int32)).toNatClampNeg) + (1 : Int32)), .int (0 : Int32), .ref 76], st_mm (st_p (st_p s 1 1 (0 : Int32)) 0 15 (-1 : Int32)))) rfl ?_
      obtain ⟨hi, h⟩ := h
      refine bi_Tias rfl rfl hi ?_
      exact bi_Tv rfl rfl (Or.inl ⟨_, rfl, h⟩)
/-- PolicyRows.needBytes(I)V -/
theorem en_X11_needBytes {X : bi_X} {d : Nat} {K : bi_St → Prop} {E : Nat → bi_St → Prop} {s : bi_St} {x0 : Int32}  (h : ((x0 < 0) → E 101 (st_ex s)) ∧ (¬ (x0 < 0) → ((x0 ≤ (st_g s 1 1)) → K s) ∧ (¬ (x0 ≤ (st_g s 1 1)) → E 101 (st_ex s)))) : cV X d 153 [.ref 0, .int x0] s K E := by
  show bi_T _ _ _ _ _
  refine bi_Tr 2 (s' := ((if x0 < 0 then 15 else 4), [(0, .ref 0), (1, .int x0)], [], st_mm s)) rfl (bi_Tif (fun hc => ?_) (fun hc => ?_))
  · have h := h.1 hc
    exact bi_Te rfl rfl (Or.inr ⟨_, st_ex s, rfl, h⟩)
  · have h := h.2 hc
    refine bi_Tr 5 (s' := ((if x0 ≤ (st_g s 1 1) then 23 else 15), [(0, .ref 0), (1, .int x0)], [], st_mm s)) rfl (bi_Tif (fun hc => ?_) (fun hc => ?_))
    · have h := h.1 hc
      exact bi_Tv rfl rfl (Or.inl ⟨_, rfl, h⟩)
    · have h := h.2 hc
      exact bi_Te rfl rfl (Or.inr ⟨_, st_ex s, rfl, h⟩)
/-- PolicyRows.needRole(I)V -/
theorem en_X11_needRole {X : bi_X} {d : Nat} {K : bi_St → Prop} {E : Nat → bi_St → Prop} {s : bi_St} {x0 : Int32}  (h : st_isB (st_gp s 0) ∧ (cV X d 159 [.int x0, .int (st_g s (st_gp s 0) 1)] s (fun (s1 : bi_St) => K s1) E)) : cV X (d + 1) 154 [.ref 0, .int x0] s K E := by
  show bi_T _ _ _ _ _
  obtain ⟨h0q0_2, h⟩ := h
  refine bi_Tr 3 (s' := (5, [(0, .ref 0), (1, .int x0)], [.ref (st_gp s 0), .int x0], st_mm s)) rfl ?_
  refine bi_Tgi (o := 0) rfl rfl rfl (st_kB0 h0q0_2) ?_
  refine bi_TcV (as := [.int x0, .int (st_g s (st_gp s 0) 1)]) rfl rfl ?_
  refine cV.mono h (fun s1 h => ?_) (fun e t h => Or.inr ⟨e, t, rfl, h⟩)
  exact bi_Tv rfl rfl (Or.inl ⟨_, rfl, h⟩)
/-- PolicyRows.needView(I)V -/
theorem en_X11_needView {X : bi_X} {d : Nat} {K : bi_St → Prop} {E : Nat → bi_St → Prop} {s : bi_St} {x0 : Int32}  (h : st_isB (st_gp s 0) ∧ (cV X d 159 [.int x0, .int (st_g s (st_gp s 0) 8)] s (fun (s1 : bi_St) => K s1) E)) : cV X (d + 1) 155 [.ref 0, .int x0] s K E := by
  show bi_T _ _ _ _ _
  obtain ⟨h0q0_2, h⟩ := h
  refine bi_Tr 3 (s' := (5, [(0, .ref 0), (1, .int x0)], [.ref (st_gp s 0), .int x0], st_mm s)) rfl ?_
  refine bi_Tgi (o := 0) rfl rfl rfl (st_kB0 h0q0_2) ?_
  refine bi_TcV (as := [.int x0, .int (st_g s (st_gp s 0) 8)]) rfl rfl ?_
  refine cV.mono h (fun s1 h => ?_) (fun e t h => Or.inr ⟨e, t, rfl, h⟩)
  exact bi_Tv rfl rfl (Or.inl ⟨_, rfl, h⟩)
/-- PolicyRows.needPolicy(I)V -/
theorem en_X11_needPolicy {X : bi_X} {d : Nat} {K : bi_St → Prop} {E : Nat → bi_St → Prop} {s : bi_St} {x0 : Int32}  (h : st_isB (st_gp s 0) ∧ (cV X d 159 [.int x0, .int (st_g s (st_gp s 0) 2)] s (fun (s1 : bi_St) => K s1) E)) : cV X (d + 1) 156 [.ref 0, .int x0] s K E := by
  show bi_T _ _ _ _ _
  obtain ⟨h0q0_2, h⟩ := h
  refine bi_Tr 3 (s' := (5, [(0, .ref 0), (1, .int x0)], [.ref (st_gp s 0), .int x0], st_mm s)) rfl ?_
  refine bi_Tgi (o := 0) rfl rfl rfl (st_kB0 h0q0_2) ?_
  refine bi_TcV (as := [.int x0, .int (st_g s (st_gp s 0) 2)]) rfl rfl ?_
  refine cV.mono h (fun s1 h => ?_) (fun e t h => Or.inr ⟨e, t, rfl, h⟩)
  exact bi_Tv rfl rfl (Or.inl ⟨_, rfl, h⟩)
/-- PolicyRows.needRow(I)V -/
theorem en_X11_needRow {X : bi_X} {d : Nat} {K : bi_St → Prop} {E : Nat → bi_St → Prop} {s : bi_St} {x0 : Int32}  (h : st_isS (st_gp s 2) ∧ (cV X d 159 [.int x0, .int (st_g s (st_gp s 2) 0)] s (fun (s1 : bi_St) => K s1) E)) : cV X (d + 1) 157 [.ref 0, .int x0] s K E := by
  show bi_T _ _ _ _ _
  obtain ⟨h0q0_2, h⟩ := h
  refine bi_Tr 3 (s' := (5, [(0, .ref 0), (1, .int x0)], [.ref (st_gp s 2), .int x0], st_mm s)) rfl ?_
  refine bi_Tgi (o := 0) rfl rfl rfl (st_kS0 h0q0_2) ?_
  refine bi_TcV (as := [.int x0, .int (st_g s (st_gp s 2) 0)]) rfl rfl ?_
  refine cV.mono h (fun s1 h => ?_) (fun e t h => Or.inr ⟨e, t, rfl, h⟩)
  exact bi_Tv rfl rfl (Or.inl ⟨_, rfl, h⟩)
/-- PolicyRows.needColumn(I)V -/
theorem en_X11_needColumn {X : bi_X} {d : Nat} {K : bi_St → Prop} {E : Nat → bi_St → Prop} {s : bi_St} {x0 : Int32}  (h : st_isB (st_gp s 0) ∧ (cV X d 159 [.int x0, .int (st_g s (st_gp s 0) 0)] s (fun (s1 : bi_St) => K s1) E)) : cV X (d + 1) 158 [.ref 0, .int x0] s K E := by
  show bi_T _ _ _ _ _
  obtain ⟨h0q0_2, h⟩ := h
  refine bi_Tr 3 (s' := (5, [(0, .ref 0), (1, .int x0)], [.ref (st_gp s 0), .int x0], st_mm s)) rfl ?_
  refine bi_Tgi (o := 0) rfl rfl rfl (st_kB0 h0q0_2) ?_
  refine bi_TcV (as := [.int x0, .int (st_g s (st_gp s 0) 0)]) rfl rfl ?_
  refine cV.mono h (fun s1 h => ?_) (fun e t h => Or.inr ⟨e, t, rfl, h⟩)
  exact bi_Tv rfl rfl (Or.inl ⟨_, rfl, h⟩)
/-- PolicyRows.needOneOf(II)V -/
theorem en_X11_needOneOf {X : bi_X} {d : Nat} {K : bi_St → Prop} {E : Nat → bi_St → Prop} {s : bi_St} {x0 : Int32} {x1 : Int32}  (h : ((x0 < 0) → E 100 (st_ex s)) ∧ (¬ (x0 < 0) → ((x0 < x1) → K s) ∧ (¬ (x0 < x1) → E 100 (st_ex s)))) : cV X d 159 [.int x0, .int x1] s K E := by
  show bi_T _ _ _ _ _
  refine bi_Tr 2 (s' := ((if x0 < 0 then 9 else 4), [(0, .int x0), (1, .int x1)], [], st_mm s)) rfl (bi_Tif (fun hc => ?_) (fun hc => ?_))
  · have h := h.1 hc
    exact bi_Te rfl rfl (Or.inr ⟨_, st_ex s, rfl, h⟩)
  · have h := h.2 hc
    refine bi_Tr 3 (s' := ((if x0 < x1 then 17 else 9), [(0, .int x0), (1, .int x1)], [], st_mm s)) rfl (bi_Tif (fun hc => ?_) (fun hc => ?_))
    · have h := h.1 hc
      exact bi_Tv rfl rfl (Or.inl ⟨_, rfl, h⟩)
    · have h := h.2 hc
      exact bi_Te rfl rfl (Or.inr ⟨_, st_ex s, rfl, h⟩)
/-- PolicyRows.bit(II)I -/
theorem en_X11_bit {X : bi_X} {d : Nat} {K : Int32 → bi_St → Prop} {E : Nat → bi_St → Prop} {s : bi_St} {x0 : Int32} {x1 : Int32}  (h : K ((x0 >>> (x1 &&& 31)) &&& (1 : Int32)) s) : cI X d 160 [.int x0, .int x1] s K E := by
  show bi_T _ _ _ _ _
  refine bi_Tr 5 (s' := (5, [(0, .int x0), (1, .int x1)], [.int ((x0 >>> (x1 &&& 31)) &&& (1 : Int32))], st_mm s)) rfl ?_
  exact bi_Tv rfl rfl (Or.inl ⟨_, _, rfl, h⟩)
