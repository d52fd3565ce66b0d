/-- PolicyRows$Book.clear()V -/
theorem en_X0_clear {X : bi_X} {d : Nat} {K : bi_St → Prop} {E : Nat → bi_St → Prop} {s : bi_St} {a0 : Nat} (ha0 : st_isB a0) (h : cV X d 63 [.ref (a0 + 8)] (st_p (st_p (st_p (st_p (st_p (st_p s a0 0 (2 : Int32)) a0 1 (0 : Int32)) a0 2 (0 : Int32)) a0 3 (0 : Int32)) a0 8 (0 : Int32)) a0 9 (0 : Int32)) (fun (s1 : bi_St) => K s1) (fun _ _ => False)) : cV X (d + 1) 1 [.ref a0] s K E := by
  show bi_T _ _ _ _ _
  refine bi_Tr 2 (s' := (2, [(0, .ref a0)], [.int (2 : Int32), .ref a0], st_mm s)) rfl ?_
  refine bi_Tpi rfl rfl rfl rfl (st_kB0 ha0) ?_
  refine bi_Tr 2 (s' := (7, [(0, .ref a0)], [.int (0 : Int32), .ref a0], st_mm (st_p s a0 0 (2 : Int32)))) rfl ?_
  refine bi_Tpi rfl rfl rfl rfl (st_kB0 ha0) ?_
  refine bi_Tr 2 (s' := (12, [(0, .ref a0)], [.int (0 : Int32), .ref a0], st_mm (st_p (st_p s a0 0 (2 : Int32)) a0 1 (0 : Int32)))) rfl ?_
  refine bi_Tpi rfl rfl rfl rfl (st_kB0 ha0) ?_
  refine bi_Tr 2 (s' := (17, [(0, .ref a0)], [.int (0 : Int32), .ref a0], st_mm (st_p (st_p (st_p s a0 0 (2 : Int32)) a0 1 (0 : Int32)) a0 2 (0 : Int32)))) rfl ?_
  refine bi_Tpi rfl rfl rfl rfl (st_kB0 ha0) ?_
  refine bi_Tr 2 (s' := (22, [(0, .ref a0)], [.int (0 : Int32), .ref a0], st_mm (st_p (st_p (st_p (st_p s a0 0 (2 : Int32)) a0 1 (0 : Int32)) a0 2 (0 : Int32)) a0 3 (0 : Int32)))) rfl ?_
  refine bi_Tpi rfl rfl rfl rfl (st_kB0 ha0) ?_
  refine bi_Tr 2 (s' := (27, [(0, .ref a0)], [.int (0 : Int32), .ref a0], st_mm (st_p (st_p (st_p (st_p (st_p s a0 0 (2 : Int32)) a0 1 (0 : Int32)) a0 2 (0 : Int32)) a0 3 (0 : Int32)) a0 8 (0 : Int32)))) rfl ?_
  refine bi_Tpi rfl rfl rfl rfl (st_kB0 ha0) ?_
  refine bi_Tr 1 (s' := (31, [(0, .ref a0)], [.ref a0], st_mm (st_p (st_p (st_p (st_p (st_p (st_p s a0 0 (2 : Int32)) a0 1 (0 : Int32)) a0 2 (0 : Int32)) a0 3 (0 : Int32)) a0 8 (0 : Int32)) a0 9 (0 : Int32)))) rfl ?_
  refine bi_Tgr rfl rfl rfl (st_kB0 ha0) (st_pB13 ha0) ?_
  refine bi_TcV (as := [.ref (a0 + 8)]) (bi_TcO rfl rfl rfl (st_kR0 (st_isR_B ha0)) rfl rfl) rfl ?_
  refine cV.mono h (fun s1 h => ?_) (fun _ _ h => h.elim)
  exact bi_Tv rfl rfl (Or.inl ⟨_, rfl, h⟩)
/-- PolicyRows$RuleReader.aim(LPolicyRows$Rules;II)V -/
theorem en_X4_aim {X : bi_X} {d : Nat} {K : bi_St → Prop} {E : Nat → bi_St → Prop} {s : bi_St} {a1 : Nat} {x1 : Int32} {x2 : Int32} (ha1 : st_isR a1) (h : K (st_p (st_p (st_pp s 6 a1) 44 2 x1) 44 3 x2)) : cV X d 49 [.ref 44, .ref a1, .int x1, .int x2] s K E := by
  show bi_T _ _ _ _ _
  refine bi_Tr 2 (s' := (2, [(0, .ref 44), (1, .ref a1), (2, .int x1), (3, .int x2)], [.ref a1, .ref 44], st_mm s)) rfl ?_
  refine bi_Tpr rfl rfl rfl rfl rfl rfl ?_
  refine bi_Tr 6 (s' := (15, [(0, .ref 44), (1, .ref a1), (2, .int x1), (3, .int x2)], [], st_mm (st_p (st_p (st_pp s 6 a1) 44 2 x1) 44 3 x2))) rfl ?_
  exact bi_Tv rfl rfl (Or.inl ⟨_, rfl, h⟩)
/-- PolicyRows$RuleReader.readRule()I -/
theorem en_X4_readRule {X : bi_X} {d : Nat} {K : Int32 → bi_St → Prop} {E : Nat → bi_St → Prop} {s : bi_St}   (h : cI X d 52 [.ref 44, .int (0 : Int32)] (st_p (st_p s 1 8 (0 : Int32)) 44 4 (1 : Int32)) (fun (r1 : Int32) (s1 : bi_St) => ((r1 = 0) → K (-1 : Int32) s1) ∧ (¬ (r1 = 0) → st_isR (st_gp s1 6) ∧ (cI X d 65 [.ref (st_gp s1 6), .int (st_g s1 1 8), .int (st_g s1 44 4)] s1 (fun (r2 : Int32) (s2 : bi_St) => K r2 s2) (fun _ _ => False)))) (fun _ _ => False)) : cI X (d + 1) 50 [.ref 44] s K E := by
  show bi_T _ _ _ _ _
  refine bi_Tr 6 (s' := (10, [(0, .ref 44)], [.int (1 : Int32), .ref 44], st_mm (st_p s 1 8 (0 : Int32)))) rfl ?_
  refine bi_Tpz rfl rfl rfl rfl rfl rfl ?_
  refine bi_Tr 2 (s' := (15, [(0, .ref 44)], [.int (0 : Int32), .ref 44], st_mm (st_p (st_p s 1 8 (0 : Int32)) 44 4 (1 : Int32)))) rfl ?_
  refine bi_TcI (as := [.ref 44, .int (0 : Int32)]) rfl rfl ?_
  refine cI.mono h (fun r1 s1 h => ?_) (fun _ _ h => h.elim)
  refine bi_Tr 1 (s' := ((if r1 = 0 then 42 else 21), [(0, .ref 44)], [], st_mm s1)) rfl (bi_Tif (fun hc => ?_) (fun hc => ?_))
  · have h := h.1 hc
    refine bi_Tr 1 (s' := (43, [(0, .ref 44)], [.int (-1 : Int32)], st_mm s1)) rfl ?_
    exact bi_Tv rfl rfl (Or.inl ⟨_, _, rfl, h⟩)
  · have h := h.2 hc
    obtain ⟨h0q1_22, h⟩ := h
    refine bi_Tr 7 (s' := (36, [(0, .ref 44)], [.int (st_g s1 44 4), .int (st_g s1 1 8), .ref (st_gp s1 6)], st_mm s1)) rfl ?_
    refine bi_TcI (as := [.ref (st_gp s1 6), .int (st_g s1 1 8), .int (st_g s1 44 4)]) (bi_TcO rfl rfl rfl (st_kR0 h0q1_22) rfl rfl) rfl ?_
    refine cI.mono h (fun r2 s2 h => ?_) (fun _ _ h => h.elim)
    refine bi_Tr 1 (s' := (43, [(0, .ref 44)], [.int r2], st_mm s2)) rfl ?_
    exact bi_Tv rfl rfl (Or.inl ⟨_, _, rfl, h⟩)
/-- PolicyRows$RuleReader.canBegin()Z -/
theorem en_X4_canBegin {X : bi_X} {d : Nat} {K : Int32 → bi_St → Prop} {E : Nat → bi_St → Prop} {s : bi_St}   (h : (((st_g s 1 3) = (2 : Int32)) → K (1 : Int32) s) ∧ (¬ ((st_g s 1 3) = (2 : Int32)) → (((st_g s 1 3) = (1 : Int32)) → K (1 : Int32) s) ∧ (¬ ((st_g s 1 3) = (1 : Int32)) → cI X d 97 [.ref 1, .int (40 : Int32)] s (fun (r1 : Int32) (s1 : bi_St) => ((r1 = 0) → K (0 : Int32) s1) ∧ (¬ (r1 = 0) → K (1 : Int32) s1)) (fun _ _ => False)))) : cI X (d + 1) 51 [.ref 44] s K E := by
  show bi_T _ _ _ _ _
  refine bi_Tr 5 (s' := ((if (st_g s 1 3) = (2 : Int32) then 34 else 11), [(0, .ref 44)], [], st_mm s)) rfl (bi_Tif (fun hc => ?_) (fun hc => ?_))
  · have h := h.1 hc
    refine bi_Tr 2 (s' := (39, [(0, .ref 44)], [.int (1 : Int32)], st_mm s)) rfl ?_
    exact bi_Tv rfl rfl (Or.inl ⟨_, _, rfl, h⟩)
  · have h := h.2 hc
    refine bi_Tr 5 (s' := ((if (st_g s 1 3) = (1 : Int32) then 34 else 22), [(0, .ref 44)], [], st_mm s)) rfl (bi_Tif (fun hc => ?_) (fun hc => ?_))
    · have h := h.1 hc
      refine bi_Tr 2 (s' := (39, [(0, .ref 44)], [.int (1 : Int32)], st_mm s)) rfl ?_
      exact bi_Tv rfl rfl (Or.inl ⟨_, _, rfl, h⟩)
    · have h := h.2 hc
      refine bi_Tr 3 (s' := (28, [(0, .ref 44)], [.int (40 : Int32), .ref 1], st_mm s)) rfl ?_
      refine bi_TcI (as := [.ref 1, .int (40 : Int32)]) rfl rfl ?_
      refine cI.mono h (fun r1 s1 h => ?_) (fun _ _ h => h.elim)
      refine bi_Tr 1 (s' := ((if r1 = 0 then 38 else 34), [(0, .ref 44)], [], st_mm s1)) rfl (bi_Tif (fun hc => ?_) (fun hc => ?_))
      · have h := h.1 hc
        refine bi_Tr 1 (s' := (39, [(0, .ref 44)], [.int (0 : Int32)], st_mm s1)) rfl ?_
        exact bi_Tv rfl rfl (Or.inl ⟨_, _, rfl, h⟩)
      · have h := h.2 hc
        refine bi_Tr 2 (s' := (39, [(0, .ref 44)], [.int (1 : Int32)], st_mm s1)) rfl ?_
        exact bi_Tv rfl rfl (Or.inl ⟨_, _, rfl, h⟩)
def at_X4_readOr_43 (X : bi_X) (d : Nat) (K : Int32 → bi_St → Prop) (E : Nat → bi_St → Prop) (s : bi_St) (y1 : Int32) (y2 : Int32) : Prop := bi_T X d 52 (43, [(0, .ref 44), (1, .int y1), (2, .int y2)], [], st_mm s) (st_RI K E)
theorem go_X4_readOr_43 {X : bi_X} {d : Nat} {K : Int32 → bi_St → Prop} {E : Nat → bi_St → Prop}  {s : bi_St} {y1 : Int32} {y2 : Int32}  (h : (((700 : Int32) ≤ y2) → K (1 : Int32) s) ∧ (¬ ((700 : Int32) ≤ y2) → cI X d 96 [.ref 1, .ref 5000] s (fun (r5 : Int32) (s5 : bi_St) => ((r5 = 0) → K (1 : Int32) s5) ∧ (¬ (r5 = 0) → cV X d 94 [.ref 1] s5 (fun (s6 : bi_St) => cI X d 53 [.ref 44, .int y1] s6 (fun (r7 : Int32) (s7 : bi_St) => ((¬ r7 = 0) → st_isR (st_gp s7 6) ∧ (cV X d 64 [.ref (st_gp s7 6), .int (13 : Int32), .int (0 : Int32)] s7 (fun (s8 : bi_St) => at_X4_readOr_43 X (d + 1) K E s8 (y1) ((y2 + (1 : Int32)))) (fun _ _ => False))) ∧ (¬ (¬ r7 = 0) → K (0 : Int32) s7)) (fun _ _ => False)) (fun _ _ => False))) (fun _ _ => False))) : at_X4_readOr_43 X (d + 1) K E s y1 y2 := by
  show bi_T _ _ _ _ _
  refine bi_Tr 3 (s' := ((if (700 : Int32) ≤ y2 then 95 else 50), [(0, .ref 44), (1, .int y1), (2, .int y2)], [], st_mm s)) rfl (bi_Tif (fun hc => ?_) (fun hc => ?_))
  · have h := h.1 hc
    refine bi_Tr 1 (s' := (96, [(0, .ref 44), (1, .int y1), (2, .int y2)], [.int (1 : Int32)], st_mm s)) rfl ?_
    exact bi_Tv rfl rfl (Or.inl ⟨_, _, rfl, h⟩)
  · have h := h.2 hc
    refine bi_Tr 3 (s' := (56, [(0, .ref 44), (1, .int y1), (2, .int y2)], [.ref 5000, .ref 1], st_mm s)) rfl ?_
    refine bi_TcI (as := [.ref 1, .ref 5000]) rfl rfl ?_
    refine cI.mono h (fun r5 s5 h => ?_) (fun _ _ h => h.elim)
    refine bi_Tr 1 (s' := ((if r5 = 0 then 95 else 62), [(0, .ref 44), (1, .int y1), (2, .int y2)], [], st_mm s5)) rfl (bi_Tif (fun hc => ?_) (fun hc => ?_))
    · have h := h.1 hc
      refine bi_Tr 1 (s' := (96, [(0, .ref 44), (1, .int y1), (2, .int y2)], [.int (1 : Int32)], st_mm s5)) rfl ?_
      exact bi_Tv rfl rfl (Or.inl ⟨_, _, rfl, h⟩)
    · have h := h.2 hc
      refine bi_Tr 2 (s' := (66, [(0, .ref 44), (1, .int y1), (2, .int y2)], [.ref 1], st_mm s5)) rfl ?_
      refine bi_TcV (as := [.ref 1]) rfl rfl ?_
      refine cV.mono h (fun s6 h => ?_) (fun _ _ h => h.elim)
      refine bi_Tr 2 (s' := (71, [(0, .ref 44), (1, .int y1), (2, .int y2)], [.int y1, .ref 44], st_mm s6)) rfl ?_
      refine bi_TcI (as := [.ref 44, .int y1]) rfl rfl ?_
      refine cI.mono h (fun r7 s7 h => ?_) (fun _ _ h => h.elim)
      refine bi_Tr 1 (s' := ((if ¬ r7 = 0 then 79 else 77), [(0, .ref 44), (1, .int y1), (2, .int y2)], [], st_mm s7)) rfl (bi_Tif (fun hc => ?_) (fun hc => ?_))
      · have h := h.1 hc
        obtain ⟨h0q3_80, h⟩ := h
        refine bi_Tr 4 (s' := (86, [(0, .ref 44), (1, .int y1), (2, .int y2)], [.int (0 : Int32), .int (13 : Int32), .ref (st_gp s7 6)], st_mm s7)) rfl ?_
        refine bi_TcV (as := [.ref (st_gp s7 6), .int (13 : Int32), .int (0 : Int32)]) (bi_TcO rfl rfl rfl (st_kR0 h0q3_80) rfl rfl) rfl ?_
        refine cV.mono h (fun s8 h => ?_) (fun _ _ h => h.elim)
        refine bi_Tr 2 (s' := (43, [(2, .int (y2 + (1 : Int32))), (0, .ref 44), (1, .int y1)], [], st_mm s8)) rfl ?_
        exact bi_Tww h rfl rfl ⟨rfl, rfl, rfl, trivial⟩
      · have h := h.2 hc
        refine bi_Tr 1 (s' := (78, [(0, .ref 44), (1, .int y1), (2, .int y2)], [.int (0 : Int32)], st_mm s7)) rfl ?_
        exact bi_Tv rfl rfl (Or.inl ⟨_, _, rfl, h⟩)
/-- PolicyRows$RuleReader.readOr(I)Z -/
theorem en_X4_readOr {X : bi_X} {d : Nat} {K : Int32 → bi_St → Prop} {E : Nat → bi_St → Prop} {s : bi_St} {x0 : Int32}  (h : cI X d 51 [.ref 44] s (fun (r1 : Int32) (s1 : bi_St) => ((¬ r1 = 0) → ((x0 < (6 : Int32)) → cI X d 53 [.ref 44, .int x0] s1 (fun (r2 : Int32) (s2 : bi_St) => ((¬ r2 = 0) → at_X4_readOr_43 X (d + 1) K E s2 (x0) ((0 : Int32))) ∧ (¬ (¬ r2 = 0) → K (0 : Int32) s2)) (fun _ _ => False)) ∧ (¬ (x0 < (6 : Int32)) → cI X d 99 [.ref 1, .int (2 : Int32)] s1 (fun (r3 : Int32) (s3 : bi_St) => bi_bool r3 = true ∧ (K r3 s3)) (fun _ _ => False))) ∧ (¬ (¬ r1 = 0) → cI X d 99 [.ref 1, .int (1 : Int32)] s1 (fun (r4 : Int32) (s4 : bi_St) => bi_bool r4 = true ∧ (K r4 s4)) (fun _ _ => False))) (fun _ _ => False)) : cI X (d + 1) 52 [.ref 44, .int x0] s K E := by
  show bi_T _ _ _ _ _
  refine bi_Tr 1 (s' := (1, [(0, .ref 44), (1, .int x0)], [.ref 44], st_mm s)) rfl ?_
  refine bi_TcI (as := [.ref 44]) rfl rfl ?_
  refine cI.mono h (fun r1 s1 h => ?_) (fun _ _ h => h.elim)
  refine bi_Tr 1 (s' := ((if ¬ r1 = 0 then 16 else 7), [(0, .ref 44), (1, .int x0)], [], st_mm s1)) rfl (bi_Tif (fun hc => ?_) (fun hc => ?_))
  · have h := h.1 hc
    refine bi_Tr 3 (s' := ((if x0 < (6 : Int32) then 31 else 22), [(0, .ref 44), (1, .int x0)], [], st_mm s1)) rfl (bi_Tif (fun hc => ?_) (fun hc => ?_))
    · have h := h.1 hc
      refine bi_Tr 2 (s' := (33, [(0, .ref 44), (1, .int x0)], [.int x0, .ref 44], st_mm s1)) rfl ?_
      refine bi_TcI (as := [.ref 44, .int x0]) rfl rfl ?_
      refine cI.mono h (fun r2 s2 h => ?_) (fun _ _ h => h.elim)
      refine bi_Tr 1 (s' := ((if ¬ r2 = 0 then 41 else 39), [(0, .ref 44), (1, .int x0)], [], st_mm s2)) rfl (bi_Tif (fun hc => ?_) (fun hc => ?_))
      · have h := h.1 hc
        refine bi_Tr 2 (s' := (43, [(2, .int (0 : Int32)), (0, .ref 44), (1, .int x0)], [], st_mm s2)) rfl ?_
        exact bi_Tww h rfl rfl ⟨rfl, rfl, rfl, trivial⟩
      · have h := h.2 hc
        refine bi_Tr 1 (s' := (40, [(0, .ref 44), (1, .int x0)], [.int (0 : Int32)], st_mm s2)) rfl ?_
        exact bi_Tv rfl rfl (Or.inl ⟨_, _, rfl, h⟩)
    · have h := h.2 hc
      refine bi_Tr 3 (s' := (27, [(0, .ref 44), (1, .int x0)], [.int (2 : Int32), .ref 1], st_mm s1)) rfl ?_
      refine bi_TcI (as := [.ref 1, .int (2 : Int32)]) rfl rfl ?_
      refine cI.mono h (fun r3 s3 h => ?_) (fun _ _ h => h.elim)
      obtain ⟨hi, h⟩ := h
      exact bi_Tv rfl hi (Or.inl ⟨_, _, rfl, h⟩)
  · have h := h.2 hc
    refine bi_Tr 3 (s' := (12, [(0, .ref 44), (1, .int x0)], [.int (1 : Int32), .ref 1], st_mm s1)) rfl ?_
    refine bi_TcI (as := [.ref 1, .int (1 : Int32)]) rfl rfl ?_
    refine cI.mono h (fun r4 s4 h => ?_) (fun _ _ h => h.elim)
    obtain ⟨hi, h⟩ := h
    exact bi_Tv rfl hi (Or.inl ⟨_, _, rfl, h⟩)
def at_X4_readAnd_12 (X : bi_X) (d : Nat) (K : Int32 → bi_St → Prop) (E : Nat → bi_St → Prop) (s : bi_St) (y1 : Int32) (y2 : Int32) : Prop := bi_T X d 53 (12, [(0, .ref 44), (1, .int y1), (2, .int y2)], [], st_mm s) (st_RI K E)
theorem go_X4_readAnd_12 {X : bi_X} {d : Nat} {K : Int32 → bi_St → Prop} {E : Nat → bi_St → Prop}  {s : bi_St} {y1 : Int32} {y2 : Int32}  (h : (((700 : Int32) ≤ y2) → K (1 : Int32) s) ∧ (¬ ((700 : Int32) ≤ y2) → cI X d 96 [.ref 1, .ref 5001] s (fun (r2 : Int32) (s2 : bi_St) => ((r2 = 0) → K (1 : Int32) s2) ∧ (¬ (r2 = 0) → cV X d 94 [.ref 1] s2 (fun (s3 : bi_St) => cI X d 54 [.ref 44, .int y1] s3 (fun (r4 : Int32) (s4 : bi_St) => ((¬ r4 = 0) → st_isR (st_gp s4 6) ∧ (cV X d 64 [.ref (st_gp s4 6), .int (12 : Int32), .int (0 : Int32)] s4 (fun (s5 : bi_St) => at_X4_readAnd_12 X (d + 1) K E s5 (y1) ((y2 + (1 : Int32)))) (fun _ _ => False))) ∧ (¬ (¬ r4 = 0) → K (0 : Int32) s4)) (fun _ _ => False)) (fun _ _ => False))) (fun _ _ => False))) : at_X4_readAnd_12 X (d + 1) K E s y1 y2 := by
  show bi_T _ _ _ _ _
  refine bi_Tr 3 (s' := ((if (700 : Int32) ≤ y2 then 64 else 19), [(0, .ref 44), (1, .int y1), (2, .int y2)], [], st_mm s)) rfl (bi_Tif (fun hc => ?_) (fun hc => ?_))
  · have h := h.1 hc
    refine bi_Tr 1 (s' := (65, [(0, .ref 44), (1, .int y1), (2, .int y2)], [.int (1 : Int32)], st_mm s)) rfl ?_
    exact bi_Tv rfl rfl (Or.inl ⟨_, _, rfl, h⟩)
  · have h := h.2 hc
    refine bi_Tr 3 (s' := (25, [(0, .ref 44), (1, .int y1), (2, .int y2)], [.ref 5001, .ref 1], st_mm s)) rfl ?_
    refine bi_TcI (as := [.ref 1, .ref 5001]) rfl rfl ?_
    refine cI.mono h (fun r2 s2 h => ?_) (fun _ _ h => h.elim)
    refine bi_Tr 1 (s' := ((if r2 = 0 then 64 else 31), [(0, .ref 44), (1, .int y1), (2, .int y2)], [], st_mm s2)) rfl (bi_Tif (fun hc => ?_) (fun hc => ?_))
    · have h := h.1 hc
      refine bi_Tr 1 (s' := (65, [(0, .ref 44), (1, .int y1), (2, .int y2)], [.int (1 : Int32)], st_mm s2)) rfl ?_
      exact bi_Tv rfl rfl (Or.inl ⟨_, _, rfl, h⟩)
    · have h := h.2 hc
      refine bi_Tr 2 (s' := (35, [(0, .ref 44), (1, .int y1), (2, .int y2)], [.ref 1], st_mm s2)) rfl ?_
      refine bi_TcV (as := [.ref 1]) rfl rfl ?_
      refine cV.mono h (fun s3 h => ?_) (fun _ _ h => h.elim)
      refine bi_Tr 2 (s' := (40, [(0, .ref 44), (1, .int y1), (2, .int y2)], [.int y1, .ref 44], st_mm s3)) rfl ?_
      refine bi_TcI (as := [.ref 44, .int y1]) rfl rfl ?_
      refine cI.mono h (fun r4 s4 h => ?_) (fun _ _ h => h.elim)
      refine bi_Tr 1 (s' := ((if ¬ r4 = 0 then 48 else 46), [(0, .ref 44), (1, .int y1), (2, .int y2)], [], st_mm s4)) rfl (bi_Tif (fun hc => ?_) (fun hc => ?_))
      · have h := h.1 hc
        obtain ⟨h0q3_49, h⟩ := h
        refine bi_Tr 4 (s' := (55, [(0, .ref 44), (1, .int y1), (2, .int y2)], [.int (0 : Int32), .int (12 : Int32), .ref (st_gp s4 6)], st_mm s4)) rfl ?_
        refine bi_TcV (as := [.ref (st_gp s4 6), .int (12 : Int32), .int (0 : Int32)]) (bi_TcO rfl rfl rfl (st_kR0 h0q3_49) rfl rfl) rfl ?_
        refine cV.mono h (fun s5 h => ?_) (fun _ _ h => h.elim)
        refine bi_Tr 2 (s' := (12, [(2, .int (y2 + (1 : Int32))), (0, .ref 44), (1, .int y1)], [], st_mm s5)) rfl ?_
        exact bi_Tww h rfl rfl ⟨rfl, rfl, rfl, trivial⟩
      · have h := h.2 hc
        refine bi_Tr 1 (s' := (47, [(0, .ref 44), (1, .int y1), (2, .int y2)], [.int (0 : Int32)], st_mm s4)) rfl ?_
        exact bi_Tv rfl rfl (Or.inl ⟨_, _, rfl, h⟩)
/-- PolicyRows$RuleReader.readAnd(I)Z -/
theorem en_X4_readAnd {X : bi_X} {d : Nat} {K : Int32 → bi_St → Prop} {E : Nat → bi_St → Prop} {s : bi_St} {x0 : Int32}  (h : cI X d 54 [.ref 44, .int x0] s (fun (r1 : Int32) (s1 : bi_St) => ((¬ r1 = 0) → at_X4_readAnd_12 X (d + 1) K E s1 (x0) ((0 : Int32))) ∧ (¬ (¬ r1 = 0) → K (0 : Int32) s1)) (fun _ _ => False)) : cI X (d + 1) 53 [.ref 44, .int x0] s K E := by
  show bi_T _ _ _ _ _
  refine bi_Tr 2 (s' := (2, [(0, .ref 44), (1, .int x0)], [.int x0, .ref 44], st_mm s)) rfl ?_
  refine bi_TcI (as := [.ref 44, .int x0]) rfl rfl ?_
  refine cI.mono h (fun r1 s1 h => ?_) (fun _ _ h => h.elim)
  refine bi_Tr 1 (s' := ((if ¬ r1 = 0 then 10 else 8), [(0, .ref 44), (1, .int x0)], [], st_mm s1)) rfl (bi_Tif (fun hc => ?_) (fun hc => ?_))
  · have h := h.1 hc
    refine bi_Tr 2 (s' := (12, [(2, .int (0 : Int32)), (0, .ref 44), (1, .int x0)], [], st_mm s1)) rfl ?_
    exact bi_Tww h rfl rfl ⟨rfl, rfl, rfl, trivial⟩
  · have h := h.2 hc
    refine bi_Tr 1 (s' := (9, [(0, .ref 44), (1, .int x0)], [.int (0 : Int32)], st_mm s1)) rfl ?_
    exact bi_Tv rfl rfl (Or.inl ⟨_, _, rfl, h⟩)
def at_X4_readNot_2 (X : bi_X) (d : Nat) (K : Int32 → bi_St → Prop) (E : Nat → bi_St → Prop) (s : bi_St) (y1 : Int32) (y2 : Int32) : Prop := bi_T X d 54 (2, [(0, .ref 44), (1, .int y1), (2, .int y2)], [], st_mm s) (st_RI K E)
def at_X4_readNot_72 (X : bi_X) (d : Nat) (K : Int32 → bi_St → Prop) (E : Nat → bi_St → Prop) (s : bi_St) (y2 : Int32) (y3 : Int32) : Prop := bi_T X d 54 (72, [(0, .ref 44), (2, .int y2), (3, .int y3)], [], st_mm s) (st_RI K E)
theorem go_X4_readNot_2 {X : bi_X} {d : Nat} {K : Int32 → bi_St → Prop} {E : Nat → bi_St → Prop}  {s : bi_St} {y1 : Int32} {y2 : Int32}  (h : (((6 : Int32) ≤ y2) → ((¬ y2 = (6 : Int32)) → cI X d 55 [.ref 44, .int y1] s (fun (r1 : Int32) (s1 : bi_St) => ((¬ r1 = 0) → at_X4_readNot_72 X (d + 1) K E s1 (y2) ((0 : Int32))) ∧ (¬ (¬ r1 = 0) → K (0 : Int32) s1)) (fun _ _ => False)) ∧ (¬ (¬ y2 = (6 : Int32)) → cI X d 96 [.ref 1, .ref 5002] s (fun (r2 : Int32) (s2 : bi_St) => ((r2 = 0) → cI X d 55 [.ref 44, .int y1] s2 (fun (r3 : Int32) (s3 : bi_St) => ((¬ r3 = 0) → at_X4_readNot_72 X (d + 1) K E s3 (y2) ((0 : Int32))) ∧ (¬ (¬ r3 = 0) → K (0 : Int32) s3)) (fun _ _ => False)) ∧ (¬ (r2 = 0) → cI X d 99 [.ref 1, .int (2 : Int32)] s2 (fun (r4 : Int32) (s4 : bi_St) => bi_bool r4 = true ∧ (K r4 s4)) (fun _ _ => False))) (fun _ _ => False))) ∧ (¬ ((6 : Int32) ≤ y2) → cI X d 96 [.ref 1, .ref 5002] s (fun (r5 : Int32) (s5 : bi_St) => ((r5 = 0) → ((¬ y2 = (6 : Int32)) → cI X d 55 [.ref 44, .int y1] s5 (fun (r6 : Int32) (s6 : bi_St) => ((¬ r6 = 0) → at_X4_readNot_72 X (d + 1) K E s6 (y2) ((0 : Int32))) ∧ (¬ (¬ r6 = 0) → K (0 : Int32) s6)) (fun _ _ => False)) ∧ (¬ (¬ y2 = (6 : Int32)) → cI X d 96 [.ref 1, .ref 5002] s5 (fun (r7 : Int32) (s7 : bi_St) => ((r7 = 0) → cI X d 55 [.ref 44, .int y1] s7 (fun (r8 : Int32) (s8 : bi_St) => ((¬ r8 = 0) → at_X4_readNot_72 X (d + 1) K E s8 (y2) ((0 : Int32))) ∧ (¬ (¬ r8 = 0) → K (0 : Int32) s8)) (fun _ _ => False)) ∧ (¬ (r7 = 0) → cI X d 99 [.ref 1, .int (2 : Int32)] s7 (fun (r9 : Int32) (s9 : bi_St) => bi_bool r9 = true ∧ (K r9 s9)) (fun _ _ => False))) (fun _ _ => False))) ∧ (¬ (r5 = 0) → cV X d 94 [.ref 1] s5 (fun (s10 : bi_St) => at_X4_readNot_2 X (d + 1) K E s10 (y1) ((y2 + (1 : Int32)))) (fun _ _ => False))) (fun _ _ => False))) : at_X4_readNot_2 X (d + 1) K E s y1 y2 := by
  show bi_T _ _ _ _ _
  refine bi_Tr 3 (s' := ((if (6 : Int32) ≤ y2 then 33 else 8), [(0, .ref 44), (1, .int y1), (2, .int y2)], [], st_mm s)) rfl (bi_Tif (fun hc => ?_) (fun hc => ?_))
  · have h := h.1 hc
    refine bi_Tr 3 (s' := ((if ¬ y2 = (6 : Int32) then 60 else 39), [(0, .ref 44), (1, .int y1), (2, .int y2)], [], st_mm s)) rfl (bi_Tif (fun hc => ?_) (fun hc => ?_))
    · have h := h.1 hc
      refine bi_Tr 2 (s' := (62, [(0, .ref 44), (1, .int y1), (2, .int y2)], [.int y1, .ref 44], st_mm s)) rfl ?_
      refine bi_TcI (as := [.ref 44, .int y1]) rfl rfl ?_
      refine cI.mono h (fun r1 s1 h => ?_) (fun _ _ h => h.elim)
      refine bi_Tr 1 (s' := ((if ¬ r1 = 0 then 70 else 68), [(0, .ref 44), (1, .int y1), (2, .int y2)], [], st_mm s1)) rfl (bi_Tif (fun hc => ?_) (fun hc => ?_))
      · have h := h.1 hc
        refine bi_Tr 2 (s' := (72, [(3, .int (0 : Int32)), (0, .ref 44), (1, .int y1), (2, .int y2)], [], st_mm s1)) rfl ?_
        exact bi_Tww h rfl rfl ⟨rfl, rfl, rfl, trivial⟩
      · have h := h.2 hc
        refine bi_Tr 1 (s' := (69, [(0, .ref 44), (1, .int y1), (2, .int y2)], [.int (0 : Int32)], st_mm s1)) rfl ?_
        exact bi_Tv rfl rfl (Or.inl ⟨_, _, rfl, h⟩)
    · have h := h.2 hc
      refine bi_Tr 3 (s' := (45, [(0, .ref 44), (1, .int y1), (2, .int y2)], [.ref 5002, .ref 1], st_mm s)) rfl ?_
      refine bi_TcI (as := [.ref 1, .ref 5002]) rfl rfl ?_
      refine cI.mono h (fun r2 s2 h => ?_) (fun _ _ h => h.elim)
      refine bi_Tr 1 (s' := ((if r2 = 0 then 60 else 51), [(0, .ref 44), (1, .int y1), (2, .int y2)], [], st_mm s2)) rfl (bi_Tif (fun hc => ?_) (fun hc => ?_))
      · have h := h.1 hc
        refine bi_Tr 2 (s' := (62, [(0, .ref 44), (1, .int y1), (2, .int y2)], [.int y1, .ref 44], st_mm s2)) rfl ?_
        refine bi_TcI (as := [.ref 44, .int y1]) rfl rfl ?_
        refine cI.mono h (fun r3 s3 h => ?_) (fun _ _ h => h.elim)
        refine bi_Tr 1 (s' := ((if ¬ r3 = 0 then 70 else 68), [(0, .ref 44), (1, .int y1), (2, .int y2)], [], st_mm s3)) rfl (bi_Tif (fun hc => ?_) (fun hc => ?_))
        · have h := h.1 hc
          refine bi_Tr 2 (s' := (72, [(3, .int (0 : Int32)), (0, .ref 44), (1, .int y1), (2, .int y2)], [], st_mm s3)) rfl ?_
          exact bi_Tww h rfl rfl ⟨rfl, rfl, rfl, trivial⟩
        · have h := h.2 hc
          refine bi_Tr 1 (s' := (69, [(0, .ref 44), (1, .int y1), (2, .int y2)], [.int (0 : Int32)], st_mm s3)) rfl ?_
          exact bi_Tv rfl rfl (Or.inl ⟨_, _, rfl, h⟩)
      · have h := h.2 hc
        refine bi_Tr 3 (s' := (56, [(0, .ref 44), (1, .int y1), (2, .int y2)], [.int (2 : Int32), .ref 1], st_mm s2)) rfl ?_
        refine bi_TcI (as := [.ref 1, .int (2 : Int32)]) rfl rfl ?_
        refine cI.mono h (fun r4 s4 h => ?_) (fun _ _ h => h.elim)
        obtain ⟨hi, h⟩ := h
        exact bi_Tv rfl hi (Or.inl ⟨_, _, rfl, h⟩)
  · have h := h.2 hc
    refine bi_Tr 3 (s' := (14, [(0, .ref 44), (1, .int y1), (2, .int y2)], [.ref 5002, .ref 1], st_mm s)) rfl ?_
    refine bi_TcI (as := [.ref 1, .ref 5002]) rfl rfl ?_
    refine cI.mono h (fun r5 s5 h => ?_) (fun _ _ h => h.elim)
    refine bi_Tr 1 (s' := ((if r5 = 0 then 33 else 20), [(0, .ref 44), (1, .int y1), (2, .int y2)], [], st_mm s5)) rfl (bi_Tif (fun hc => ?_) (fun hc => ?_))
    · have h := h.1 hc
      refine bi_Tr 3 (s' := ((if ¬ y2 = (6 : Int32) then 60 else 39), [(0, .ref 44), (1, .int y1), (2, .int y2)], [], st_mm s5)) rfl (bi_Tif (fun hc => ?_) (fun hc => ?_))
      · have h := h.1 hc
        refine bi_Tr 2 (s' := (62, [(0, .ref 44), (1, .int y1), (2, .int y2)], [.int y1, .ref 44], st_mm s5)) rfl ?_
        refine bi_TcI (as := [.ref 44, .int y1]) rfl rfl ?_
        refine cI.mono h (fun r6 s6 h => ?_) (fun _ _ h => h.elim)
        refine bi_Tr 1 (s' := ((if ¬ r6 = 0 then 70 else 68), [(0, .ref 44), (1, .int y1), (2, .int y2)], [], st_mm s6)) rfl (bi_Tif (fun hc => ?_) (fun hc => ?_))
        · have h := h.1 hc
          refine bi_Tr 2 (s' := (72, [(3, .int (0 : Int32)), (0, .ref 44), (1, .int y1), (2, .int y2)], [], st_mm s6)) rfl ?_
          exact bi_Tww h rfl rfl ⟨rfl, rfl, rfl, trivial⟩
        · have h := h.2 hc
          refine bi_Tr 1 (s' := (69, [(0, .ref 44), (1, .int y1), (2, .int y2)], [.int (0 : Int32)], st_mm s6)) rfl ?_
          exact bi_Tv rfl rfl (Or.inl ⟨_, _, rfl, h⟩)
      · have h := h.2 hc
        refine bi_Tr 3 (s' := (45, [(0, .ref 44), (1, .int y1), (2, .int y2)], [.ref 5002, .ref 1], st_mm s5)) rfl ?_
        refine bi_TcI (as := [.ref 1, .ref 5002]) rfl rfl ?_
        refine cI.mono h (fun r7 s7 h => ?_) (fun _ _ h => h.elim)
        refine bi_Tr 1 (s' := ((if r7 = 0 then 60 else 51), [(0, .ref 44), (1, .int y1), (2, .int y2)], [], st_mm s7)) rfl (bi_Tif (fun hc => ?_) (fun hc => ?_))
        · have h := h.1 hc
          refine bi_Tr 2 (s' := (62, [(0, .ref 44), (1, .int y1), (2, .int y2)], [.int y1, .ref 44], st_mm s7)) rfl ?_
          refine bi_TcI (as := [.ref 44, .int y1]) rfl rfl ?_
          refine cI.mono h (fun r8 s8 h => ?_) (fun _ _ h => h.elim)
          refine bi_Tr 1 (s' := ((if ¬ r8 = 0 then 70 else 68), [(0, .ref 44), (1, .int y1), (2, .int y2)], [], st_mm s8)) rfl (bi_Tif (fun hc => ?_) (fun hc => ?_))
          · have h := h.1 hc
            refine bi_Tr 2 (s' := (72, [(3, .int (0 : Int32)), (0, .ref 44), (1, .int y1), (2, .int y2)], [], st_mm s8)) rfl ?_
            exact bi_Tww h rfl rfl ⟨rfl, rfl, rfl, trivial⟩
          · have h := h.2 hc
            refine bi_Tr 1 (s' := (69, [(0, .ref 44), (1, .int y1), (2, .int y2)], [.int (0 : Int32)], st_mm s8)) rfl ?_
            exact bi_Tv rfl rfl (Or.inl ⟨_, _, rfl, h⟩)
        · have h := h.2 hc
          refine bi_Tr 3 (s' := (56, [(0, .ref 44), (1, .int y1), (2, .int y2)], [.int (2 : Int32), .ref 1], st_mm s7)) rfl ?_
          refine bi_TcI (as := [.ref 1, .int (2 : Int32)]) rfl rfl ?_
          refine cI.mono h (fun r9 s9 h => ?_) (fun _ _ h => h.elim)
          obtain ⟨hi, h⟩ := h
          exact bi_Tv rfl hi (Or.inl ⟨_, _, rfl, h⟩)
    · have h := h.2 hc
      refine bi_Tr 2 (s' := (24, [(0, .ref 44), (1, .int y1), (2, .int y2)], [.ref 1], st_mm s5)) rfl ?_
      refine bi_TcV (as := [.ref 1]) rfl rfl ?_
      refine cV.mono h (fun s10 h => ?_) (fun _ _ h => h.elim)
      refine bi_Tr 2 (s' := (2, [(2, .int (y2 + (1 : Int32))), (0, .ref 44), (1, .int y1)], [], st_mm s10)) rfl ?_
      exact bi_Tww h rfl rfl ⟨rfl, rfl, rfl, trivial⟩
theorem go_X4_readNot_72 {X : bi_X} {d : Nat} {K : Int32 → bi_St → Prop} {E : Nat → bi_St → Prop}  {s : bi_St} {y2 : Int32} {y3 : Int32}  (h : ((y2 ≤ y3) → K (1 : Int32) s) ∧ (¬ (y2 ≤ y3) → st_isR (st_gp s 6) ∧ (cV X d 64 [.ref (st_gp s 6), .int (5 : Int32), .int (0 : Int32)] s (fun (s11 : bi_St) => at_X4_readNot_72 X (d + 1) K E s11 (y2) ((y3 + (1 : Int32)))) (fun _ _ => False)))) : at_X4_readNot_72 X (d + 1) K E s y2 y3 := by
  show bi_T _ _ _ _ _
  refine bi_Tr 3 (s' := ((if y2 ≤ y3 then 92 else 77), [(0, .ref 44), (2, .int y2), (3, .int y3)], [], st_mm s)) rfl (bi_Tif (fun hc => ?_) (fun hc => ?_))
  · have h := h.1 hc
    refine bi_Tr 1 (s' := (93, [(0, .ref 44), (2, .int y2), (3, .int y3)], [.int (1 : Int32)], st_mm s)) rfl ?_
    exact bi_Tv rfl rfl (Or.inl ⟨_, _, rfl, h⟩)
  · have h := h.2 hc
    obtain ⟨h0q1_78, h⟩ := h
    refine bi_Tr 4 (s' := (83, [(0, .ref 44), (2, .int y2), (3, .int y3)], [.int (0 : Int32), .int (5 : Int32), .ref (st_gp s 6)], st_mm s)) rfl ?_
    refine bi_TcV (as := [.ref (st_gp s 6), .int (5 : Int32), .int (0 : Int32)]) (bi_TcO rfl rfl rfl (st_kR0 h0q1_78) rfl rfl) rfl ?_
    refine cV.mono h (fun s11 h => ?_) (fun _ _ h => h.elim)
    refine bi_Tr 2 (s' := (72, [(3, .int (y3 + (1 : Int32))), (0, .ref 44), (2, .int y2)], [], st_mm s11)) rfl ?_
    exact bi_Tww h rfl rfl ⟨rfl, rfl, rfl, trivial⟩
/-- PolicyRows$RuleReader.readNot(I)Z -/
theorem en_X4_readNot {X : bi_X} {d : Nat} {K : Int32 → bi_St → Prop} {E : Nat → bi_St → Prop} {s : bi_St} {x0 : Int32}  (h : at_X4_readNot_2 X (d + 1) K E s (x0) ((0 : Int32))) : cI X (d + 1) 54 [.ref 44, .int x0] s K E := by
  show bi_T _ _ _ _ _
  refine bi_Tr 2 (s' := (2, [(2, .int (0 : Int32)), (0, .ref 44), (1, .int x0)], [], st_mm s)) rfl ?_
  exact bi_Tww h rfl rfl ⟨rfl, rfl, rfl, trivial⟩
/-- PolicyRows$RuleReader.readTest(I)Z -/
theorem en_X4_readTest {X : bi_X} {d : Nat} {K : Int32 → bi_St → Prop} {E : Nat → bi_St → Prop} {s : bi_St} {x0 : Int32}  (h : cI X d 56 [.ref 44, .int x0] s (fun (r1 : Int32) (s1 : bi_St) => ((¬ r1 = 0) → cI X d 97 [.ref 1, .int (60 : Int32)] s1 (fun (r2 : Int32) (s2 : bi_St) => ((¬ r2 = 0) → cV X d 94 [.ref 1] s2 (fun (s3 : bi_St) => cI X d 56 [.ref 44, .int x0] s3 (fun (r4 : Int32) (s4 : bi_St) => ((¬ r4 = 0) → st_isR (st_gp s4 6) ∧ (((r2 = 0) → cV X d 64 [.ref (st_gp s4 6), .int (11 : Int32), .int (0 : Int32)] s4 (fun (s5 : bi_St) => K (1 : Int32) s5) (fun _ _ => False)) ∧ (¬ (r2 = 0) → cV X d 64 [.ref (st_gp s4 6), .int (10 : Int32), .int (0 : Int32)] s4 (fun (s6 : bi_St) => K (1 : Int32) s6) (fun _ _ => False)))) ∧ (¬ (¬ r4 = 0) → K (0 : Int32) s4)) (fun _ _ => False)) (fun _ _ => False)) ∧ (¬ (¬ r2 = 0) → cI X d 97 [.ref 1, .int (61 : Int32)] s2 (fun (r7 : Int32) (s7 : bi_St) => ((¬ r7 = 0) → cV X d 94 [.ref 1] s7 (fun (s8 : bi_St) => cI X d 56 [.ref 44, .int x0] s8 (fun (r9 : Int32) (s9 : bi_St) => ((¬ r9 = 0) → st_isR (st_gp s9 6) ∧ (((r2 = 0) → cV X d 64 [.ref (st_gp s9 6), .int (11 : Int32), .int (0 : Int32)] s9 (fun (s10 : bi_St) => K (1 : Int32) s10) (fun _ _ => False)) ∧ (¬ (r2 = 0) → cV X d 64 [.ref (st_gp s9 6), .int (10 : Int32), .int (0 : Int32)] s9 (fun (s11 : bi_St) => K (1 : Int32) s11) (fun _ _ => False)))) ∧ (¬ (¬ r9 = 0) → K (0 : Int32) s9)) (fun _ _ => False)) (fun _ _ => False)) ∧ (¬ (¬ r7 = 0) → K (1 : Int32) s7)) (fun _ _ => False))) (fun _ _ => False)) ∧ (¬ (¬ r1 = 0) → K (0 : Int32) s1)) (fun _ _ => False)) : cI X (d + 1) 55 [.ref 44, .int x0] s K E := by
  show bi_T _ _ _ _ _
  refine bi_Tr 2 (s' := (2, [(0, .ref 44), (1, .int x0)], [.int x0, .ref 44], st_mm s)) rfl ?_
  refine bi_TcI (as := [.ref 44, .int x0]) rfl rfl ?_
  refine cI.mono h (fun r1 s1 h => ?_) (fun _ _ h => h.elim)
  refine bi_Tr 1 (s' := ((if ¬ r1 = 0 then 10 else 8), [(0, .ref 44), (1, .int x0)], [], st_mm s1)) rfl (bi_Tif (fun hc => ?_) (fun hc => ?_))
  · have h := h.1 hc
    refine bi_Tr 3 (s' := (16, [(0, .ref 44), (1, .int x0)], [.int (60 : Int32), .ref 1], st_mm s1)) rfl ?_
    refine bi_TcI (as := [.ref 1, .int (60 : Int32)]) rfl rfl ?_
    refine cI.mono h (fun r2 s2 h => ?_) (fun _ _ h => h.elim)
    refine bi_Tr 3 (s' := ((if ¬ r2 = 0 then 38 else 24), [(2, .int r2), (0, .ref 44), (1, .int x0)], [], st_mm s2)) rfl (bi_Tif (fun hc => ?_) (fun hc => ?_))
    · have h := h.1 hc
      refine bi_Tr 2 (s' := (42, [(2, .int r2), (0, .ref 44), (1, .int x0)], [.ref 1], st_mm s2)) rfl ?_
      refine bi_TcV (as := [.ref 1]) rfl rfl ?_
      refine cV.mono h (fun s3 h => ?_) (fun _ _ h => h.elim)
      refine bi_Tr 2 (s' := (47, [(2, .int r2), (0, .ref 44), (1, .int x0)], [.int x0, .ref 44], st_mm s3)) rfl ?_
      refine bi_TcI (as := [.ref 44, .int x0]) rfl rfl ?_
      refine cI.mono h (fun r4 s4 h => ?_) (fun _ _ h => h.elim)
      refine bi_Tr 1 (s' := ((if ¬ r4 = 0 then 55 else 53), [(2, .int r2), (0, .ref 44), (1, .int x0)], [], st_mm s4)) rfl (bi_Tif (fun hc => ?_) (fun hc => ?_))
      · have h := h.1 hc
        obtain ⟨h0q3_56, h⟩ := h
        refine bi_Tr 4 (s' := ((if r2 = 0 then 68 else 63), [(2, .int r2), (0, .ref 44), (1, .int x0)], [.ref (st_gp s4 6)], st_mm s4)) rfl (bi_Tif (fun hc => ?_) (fun hc => ?_))
        · have h := h.1 hc
          refine bi_Tr 2 (s' := (71, [(2, .int r2), (0, .ref 44), (1, .int x0)], [.int (0 : Int32), .int (11 : Int32), .ref (st_gp s4 6)], st_mm s4)) rfl ?_
          refine bi_TcV (as := [.ref (st_gp s4 6), .int (11 : Int32), .int (0 : Int32)]) (bi_TcO rfl rfl rfl (st_kR0 h0q3_56) rfl rfl) rfl ?_
          refine cV.mono h (fun s5 h => ?_) (fun _ _ h => h.elim)
          refine bi_Tr 1 (s' := (75, [(2, .int r2), (0, .ref 44), (1, .int x0)], [.int (1 : Int32)], st_mm s5)) rfl ?_
          exact bi_Tv rfl rfl (Or.inl ⟨_, _, rfl, h⟩)
        · have h := h.2 hc
          refine bi_Tr 3 (s' := (71, [(2, .int r2), (0, .ref 44), (1, .int x0)], [.int (0 : Int32), .int (10 : Int32), .ref (st_gp s4 6)], st_mm s4)) rfl ?_
          refine bi_TcV (as := [.ref (st_gp s4 6), .int (10 : Int32), .int (0 : Int32)]) (bi_TcO rfl rfl rfl (st_kR0 h0q3_56) rfl rfl) rfl ?_
          refine cV.mono h (fun s6 h => ?_) (fun _ _ h => h.elim)
          refine bi_Tr 1 (s' := (75, [(2, .int r2), (0, .ref 44), (1, .int x0)], [.int (1 : Int32)], st_mm s6)) rfl ?_
          exact bi_Tv rfl rfl (Or.inl ⟨_, _, rfl, h⟩)
      · have h := h.2 hc
        refine bi_Tr 1 (s' := (54, [(2, .int r2), (0, .ref 44), (1, .int x0)], [.int (0 : Int32)], st_mm s4)) rfl ?_
        exact bi_Tv rfl rfl (Or.inl ⟨_, _, rfl, h⟩)
    · have h := h.2 hc
      refine bi_Tr 3 (s' := (30, [(2, .int r2), (0, .ref 44), (1, .int x0)], [.int (61 : Int32), .ref 1], st_mm s2)) rfl ?_
      refine bi_TcI (as := [.ref 1, .int (61 : Int32)]) rfl rfl ?_
      refine cI.mono h (fun r7 s7 h => ?_) (fun _ _ h => h.elim)
      refine bi_Tr 1 (s' := ((if ¬ r7 = 0 then 38 else 36), [(2, .int r2), (0, .ref 44), (1, .int x0)], [], st_mm s7)) rfl (bi_Tif (fun hc => ?_) (fun hc => ?_))
      · have h := h.1 hc
        refine bi_Tr 2 (s' := (42, [(2, .int r2), (0, .ref 44), (1, .int x0)], [.ref 1], st_mm s7)) rfl ?_
        refine bi_TcV (as := [.ref 1]) rfl rfl ?_
        refine cV.mono h (fun s8 h => ?_) (fun _ _ h => h.elim)
        refine bi_Tr 2 (s' := (47, [(2, .int r2), (0, .ref 44), (1, .int x0)], [.int x0, .ref 44], st_mm s8)) rfl ?_
        refine bi_TcI (as := [.ref 44, .int x0]) rfl rfl ?_
        refine cI.mono h (fun r9 s9 h => ?_) (fun _ _ h => h.elim)
        refine bi_Tr 1 (s' := ((if ¬ r9 = 0 then 55 else 53), [(2, .int r2), (0, .ref 44), (1, .int x0)], [], st_mm s9)) rfl (bi_Tif (fun hc => ?_) (fun hc => ?_))
        · have h := h.1 hc
          obtain ⟨h0q4_56, h⟩ := h
          refine bi_Tr 4 (s' := ((if r2 = 0 then 68 else 63), [(2, .int r2), (0, .ref 44), (1, .int x0)], [.ref (st_gp s9 6)], st_mm s9)) rfl (bi_Tif (fun hc => ?_) (fun hc => ?_))
          · have h := h.1 hc
            refine bi_Tr 2 (s' := (71, [(2, .int r2), (0, .ref 44), (1, .int x0)], [.int (0 : Int32), .int (11 : Int32), .ref (st_gp s9 6)], st_mm s9)) rfl ?_
            refine bi_TcV (as := [.ref (st_gp s9 6), .int (11 : Int32), .int (0 : Int32)]) (bi_TcO rfl rfl rfl (st_kR0 h0q4_56) rfl rfl) rfl ?_
            refine cV.mono h (fun s10 h => ?_) (fun _ _ h => h.elim)
            refine bi_Tr 1 (s' := (75, [(2, .int r2), (0, .ref 44), (1, .int x0)], [.int (1 : Int32)], st_mm s10)) rfl ?_
            exact bi_Tv rfl rfl (Or.inl ⟨_, _, rfl, h⟩)
          · have h := h.2 hc
            refine bi_Tr 3 (s' := (71, [(2, .int r2), (0, .ref 44), (1, .int x0)], [.int (0 : Int32), .int (10 : Int32), .ref (st_gp s9 6)], st_mm s9)) rfl ?_
            refine bi_TcV (as := [.ref (st_gp s9 6), .int (10 : Int32), .int (0 : Int32)]) (bi_TcO rfl rfl rfl (st_kR0 h0q4_56) rfl rfl) rfl ?_
            refine cV.mono h (fun s11 h => ?_) (fun _ _ h => h.elim)
            refine bi_Tr 1 (s' := (75, [(2, .int r2), (0, .ref 44), (1, .int x0)], [.int (1 : Int32)], st_mm s11)) rfl ?_
            exact bi_Tv rfl rfl (Or.inl ⟨_, _, rfl, h⟩)
        · have h := h.2 hc
          refine bi_Tr 1 (s' := (54, [(2, .int r2), (0, .ref 44), (1, .int x0)], [.int (0 : Int32)], st_mm s9)) rfl ?_
          exact bi_Tv rfl rfl (Or.inl ⟨_, _, rfl, h⟩)
      · have h := h.2 hc
        refine bi_Tr 1 (s' := (37, [(2, .int r2), (0, .ref 44), (1, .int x0)], [.int (1 : Int32)], st_mm s7)) rfl ?_
        exact bi_Tv rfl rfl (Or.inl ⟨_, _, rfl, h⟩)
  · have h := h.2 hc
    refine bi_Tr 1 (s' := (9, [(0, .ref 44), (1, .int x0)], [.int (0 : Int32)], st_mm s1)) rfl ?_
    exact bi_Tv rfl rfl (Or.inl ⟨_, _, rfl, h⟩)
def at_X4_readSum_12 (X : bi_X) (d : Nat) (K : Int32 → bi_St → Prop) (E : Nat → bi_St → Prop) (s : bi_St) (y1 : Int32) (y2 : Int32) : Prop := bi_T X d 56 (12, [(0, .ref 44), (1, .int y1), (2, .int y2)], [], st_mm s) (st_RI K E)
theorem go_X4_readSum_12 {X : bi_X} {d : Nat} {K : Int32 → bi_St → Prop} {E : Nat → bi_St → Prop}  {s : bi_St} {y1 : Int32} {y2 : Int32}  (h : (((700 : Int32) ≤ y2) → K (1 : Int32) s) ∧ (¬ ((700 : Int32) ≤ y2) → cI X d 97 [.ref 1, .int (43 : Int32)] s (fun (r2 : Int32) (s2 : bi_St) => ((¬ r2 = 0) → cI X d 97 [.ref 1, .int (43 : Int32)] s2 (fun (r3 : Int32) (s3 : bi_St) => cV X d 94 [.ref 1] s3 (fun (s4 : bi_St) => cI X d 57 [.ref 44, .int y1] s4 (fun (r5 : Int32) (s5 : bi_St) => ((¬ r5 = 0) → st_isR (st_gp s5 6) ∧ (((r3 = 0) → cV X d 64 [.ref (st_gp s5 6), .int (7 : Int32), .int (0 : Int32)] s5 (fun (s6 : bi_St) => at_X4_readSum_12 X (d + 1) K E s6 (y1) ((y2 + (1 : Int32)))) (fun _ _ => False)) ∧ (¬ (r3 = 0) → cV X d 64 [.ref (st_gp s5 6), .int (6 : Int32), .int (0 : Int32)] s5 (fun (s7 : bi_St) => at_X4_readSum_12 X (d + 1) K E s7 (y1) ((y2 + (1 : Int32)))) (fun _ _ => False)))) ∧ (¬ (¬ r5 = 0) → K (0 : Int32) s5)) (fun _ _ => False)) (fun _ _ => False)) (fun _ _ => False)) ∧ (¬ (¬ r2 = 0) → cI X d 97 [.ref 1, .int (45 : Int32)] s2 (fun (r8 : Int32) (s8 : bi_St) => ((r8 = 0) → K (1 : Int32) s8) ∧ (¬ (r8 = 0) → cI X d 97 [.ref 1, .int (43 : Int32)] s8 (fun (r9 : Int32) (s9 : bi_St) => cV X d 94 [.ref 1] s9 (fun (s10 : bi_St) => cI X d 57 [.ref 44, .int y1] s10 (fun (r11 : Int32) (s11 : bi_St) => ((¬ r11 = 0) → st_isR (st_gp s11 6) ∧ (((r9 = 0) → cV X d 64 [.ref (st_gp s11 6), .int (7 : Int32), .int (0 : Int32)] s11 (fun (s12 : bi_St) => at_X4_readSum_12 X (d + 1) K E s12 (y1) ((y2 + (1 : Int32)))) (fun _ _ => False)) ∧ (¬ (r9 = 0) → cV X d 64 [.ref (st_gp s11 6), .int (6 : Int32), .int (0 : Int32)] s11 (fun (s13 : bi_St) => at_X4_readSum_12 X (d + 1) K E s13 (y1) ((y2 + (1 : Int32)))) (fun _ _ => False)))) ∧ (¬ (¬ r11 = 0) → K (0 : Int32) s11)) (fun _ _ => False)) (fun _ _ => False)) (fun _ _ => False))) (fun _ _ => False))) (fun _ _ => False))) : at_X4_readSum_12 X (d + 1) K E s y1 y2 := by
  show bi_T _ _ _ _ _
  refine bi_Tr 3 (s' := ((if (700 : Int32) ≤ y2 then 95 else 19), [(0, .ref 44), (1, .int y1), (2, .int y2)], [], st_mm s)) rfl (bi_Tif (fun hc => ?_) (fun hc => ?_))
  · have h := h.1 hc
    refine bi_Tr 1 (s' := (96, [(0, .ref 44), (1, .int y1), (2, .int y2)], [.int (1 : Int32)], st_mm s)) rfl ?_
    exact bi_Tv rfl rfl (Or.inl ⟨_, _, rfl, h⟩)
  · have h := h.2 hc
    refine bi_Tr 3 (s' := (25, [(0, .ref 44), (1, .int y1), (2, .int y2)], [.int (43 : Int32), .ref 1], st_mm s)) rfl ?_
    refine bi_TcI (as := [.ref 1, .int (43 : Int32)]) rfl rfl ?_
    refine cI.mono h (fun r2 s2 h => ?_) (fun _ _ h => h.elim)
    refine bi_Tr 1 (s' := ((if ¬ r2 = 0 then 43 else 31), [(0, .ref 44), (1, .int y1), (2, .int y2)], [], st_mm s2)) rfl (bi_Tif (fun hc => ?_) (fun hc => ?_))
    · have h := h.1 hc
      refine bi_Tr 3 (s' := (49, [(0, .ref 44), (1, .int y1), (2, .int y2)], [.int (43 : Int32), .ref 1], st_mm s2)) rfl ?_
      refine bi_TcI (as := [.ref 1, .int (43 : Int32)]) rfl rfl ?_
      refine cI.mono h (fun r3 s3 h => ?_) (fun _ _ h => h.elim)
      refine bi_Tr 3 (s' := (57, [(3, .int r3), (0, .ref 44), (1, .int y1), (2, .int y2)], [.ref 1], st_mm s3)) rfl ?_
      refine bi_TcV (as := [.ref 1]) rfl rfl ?_
      refine cV.mono h (fun s4 h => ?_) (fun _ _ h => h.elim)
      refine bi_Tr 2 (s' := (62, [(3, .int r3), (0, .ref 44), (1, .int y1), (2, .int y2)], [.int y1, .ref 44], st_mm s4)) rfl ?_
      refine bi_TcI (as := [.ref 44, .int y1]) rfl rfl ?_
      refine cI.mono h (fun r5 s5 h => ?_) (fun _ _ h => h.elim)
      refine bi_Tr 1 (s' := ((if ¬ r5 = 0 then 70 else 68), [(3, .int r3), (0, .ref 44), (1, .int y1), (2, .int y2)], [], st_mm s5)) rfl (bi_Tif (fun hc => ?_) (fun hc => ?_))
      · have h := h.1 hc
        obtain ⟨h0q3_71, h⟩ := h
        refine bi_Tr 4 (s' := ((if r3 = 0 then 83 else 78), [(3, .int r3), (0, .ref 44), (1, .int y1), (2, .int y2)], [.ref (st_gp s5 6)], st_mm s5)) rfl (bi_Tif (fun hc => ?_) (fun hc => ?_))
        · have h := h.1 hc
          refine bi_Tr 2 (s' := (86, [(3, .int r3), (0, .ref 44), (1, .int y1), (2, .int y2)], [.int (0 : Int32), .int (7 : Int32), .ref (st_gp s5 6)], st_mm s5)) rfl ?_
          refine bi_TcV (as := [.ref (st_gp s5 6), .int (7 : Int32), .int (0 : Int32)]) (bi_TcO rfl rfl rfl (st_kR0 h0q3_71) rfl rfl) rfl ?_
          refine cV.mono h (fun s6 h => ?_) (fun _ _ h => h.elim)
          refine bi_Tr 2 (s' := (12, [(2, .int (y2 + (1 : Int32))), (3, .int r3), (0, .ref 44), (1, .int y1)], [], st_mm s6)) rfl ?_
          exact bi_Tww h rfl rfl ⟨rfl, rfl, rfl, trivial⟩
        · have h := h.2 hc
          refine bi_Tr 3 (s' := (86, [(3, .int r3), (0, .ref 44), (1, .int y1), (2, .int y2)], [.int (0 : Int32), .int (6 : Int32), .ref (st_gp s5 6)], st_mm s5)) rfl ?_
          refine bi_TcV (as := [.ref (st_gp s5 6), .int (6 : Int32), .int (0 : Int32)]) (bi_TcO rfl rfl rfl (st_kR0 h0q3_71) rfl rfl) rfl ?_
          refine cV.mono h (fun s7 h => ?_) (fun _ _ h => h.elim)
          refine bi_Tr 2 (s' := (12, [(2, .int (y2 + (1 : Int32))), (3, .int r3), (0, .ref 44), (1, .int y1)], [], st_mm s7)) rfl ?_
          exact bi_Tww h rfl rfl ⟨rfl, rfl, rfl, trivial⟩
      · have h := h.2 hc
        refine bi_Tr 1 (s' := (69, [(3, .int r3), (0, .ref 44), (1, .int y1), (2, .int y2)], [.int (0 : Int32)], st_mm s5)) rfl ?_
        exact bi_Tv rfl rfl (Or.inl ⟨_, _, rfl, h⟩)
    · have h := h.2 hc
      refine bi_Tr 3 (s' := (37, [(0, .ref 44), (1, .int y1), (2, .int y2)], [.int (45 : Int32), .ref 1], st_mm s2)) rfl ?_
      refine bi_TcI (as := [.ref 1, .int (45 : Int32)]) rfl rfl ?_
      refine cI.mono h (fun r8 s8 h => ?_) (fun _ _ h => h.elim)
      refine bi_Tr 1 (s' := ((if r8 = 0 then 95 else 43), [(0, .ref 44), (1, .int y1), (2, .int y2)], [], st_mm s8)) rfl (bi_Tif (fun hc => ?_) (fun hc => ?_))
      · have h := h.1 hc
        refine bi_Tr 1 (s' := (96, [(0, .ref 44), (1, .int y1), (2, .int y2)], [.int (1 : Int32)], st_mm s8)) rfl ?_
        exact bi_Tv rfl rfl (Or.inl ⟨_, _, rfl, h⟩)
      · have h := h.2 hc
        refine bi_Tr 3 (s' := (49, [(0, .ref 44), (1, .int y1), (2, .int y2)], [.int (43 : Int32), .ref 1], st_mm s8)) rfl ?_
        refine bi_TcI (as := [.ref 1, .int (43 : Int32)]) rfl rfl ?_
        refine cI.mono h (fun r9 s9 h => ?_) (fun _ _ h => h.elim)
        refine bi_Tr 3 (s' := (57, [(3, .int r9), (0, .ref 44), (1, .int y1), (2, .int y2)], [.ref 1], st_mm s9)) rfl ?_
        refine bi_TcV (as := [.ref 1]) rfl rfl ?_
        refine cV.mono h (fun s10 h => ?_) (fun _ _ h => h.elim)
        refine bi_Tr 2 (s' := (62, [(3, .int r9), (0, .ref 44), (1, .int y1), (2, .int y2)], [.int y1, .ref 44], st_mm s10)) rfl ?_
        refine bi_TcI (as := [.ref 44, .int y1]) rfl rfl ?_
        refine cI.mono h (fun r11 s11 h => ?_) (fun _ _ h => h.elim)
        refine bi_Tr 1 (s' := ((if ¬ r11 = 0 then 70 else 68), [(3, .int r9), (0, .ref 44), (1, .int y1), (2, .int y2)], [], st_mm s11)) rfl (bi_Tif (fun hc => ?_) (fun hc => ?_))
        · have h := h.1 hc
          obtain ⟨h0q4_71, h⟩ := h
          refine bi_Tr 4 (s' := ((if r9 = 0 then 83 else 78), [(3, .int r9), (0, .ref 44), (1, .int y1), (2, .int y2)], [.ref (st_gp s11 6)], st_mm s11)) rfl (bi_Tif (fun hc => ?_) (fun hc => ?_))
          · have h := h.1 hc
            refine bi_Tr 2 (s' := (86, [(3, .int r9), (0, .ref 44), (1, .int y1), (2, .int y2)], [.int (0 : Int32), .int (7 : Int32), .ref (st_gp s11 6)], st_mm s11)) rfl ?_
            refine bi_TcV (as := [.ref (st_gp s11 6), .int (7 : Int32), .int (0 : Int32)]) (bi_TcO rfl rfl rfl (st_kR0 h0q4_71) rfl rfl) rfl ?_
            refine cV.mono h (fun s12 h => ?_) (fun _ _ h => h.elim)
            refine bi_Tr 2 (s' := (12, [(2, .int (y2 + (1 : Int32))), (3, .int r9), (0, .ref 44), (1, .int y1)], [], st_mm s12)) rfl ?_
            exact bi_Tww h rfl rfl ⟨rfl, rfl, rfl, trivial⟩
          · have h := h.2 hc
            refine bi_Tr 3 (s' := (86, [(3, .int r9), (0, .ref 44), (1, .int y1), (2, .int y2)], [.int (0 : Int32), .int (6 : Int32), .ref (st_gp s11 6)], st_mm s11)) rfl ?_
            refine bi_TcV (as := [.ref (st_gp s11 6), .int (6 : Int32), .int (0 : Int32)]) (bi_TcO rfl rfl rfl (st_kR0 h0q4_71) rfl rfl) rfl ?_
            refine cV.mono h (fun s13 h => ?_) (fun _ _ h => h.elim)
            refine bi_Tr 2 (s' := (12, [(2, .int (y2 + (1 : Int32))), (3, .int r9), (0, .ref 44), (1, .int y1)], [], st_mm s13)) rfl ?_
            exact bi_Tww h rfl rfl ⟨rfl, rfl, rfl, trivial⟩
        · have h := h.2 hc
          refine bi_Tr 1 (s' := (69, [(3, .int r9), (0, .ref 44), (1, .int y1), (2, .int y2)], [.int (0 : Int32)], st_mm s11)) rfl ?_
          exact bi_Tv rfl rfl (Or.inl ⟨_, _, rfl, h⟩)
/-- PolicyRows$RuleReader.readSum(I)Z -/
theorem en_X4_readSum {X : bi_X} {d : Nat} {K : Int32 → bi_St → Prop} {E : Nat → bi_St → Prop} {s : bi_St} {x0 : Int32}  (h : cI X d 57 [.ref 44, .int x0] s (fun (r1 : Int32) (s1 : bi_St) => ((¬ r1 = 0) → at_X4_readSum_12 X (d + 1) K E s1 (x0) ((0 : Int32))) ∧ (¬ (¬ r1 = 0) → K (0 : Int32) s1)) (fun _ _ => False)) : cI X (d + 1) 56 [.ref 44, .int x0] s K E := by
  show bi_T _ _ _ _ _
  refine bi_Tr 2 (s' := (2, [(0, .ref 44), (1, .int x0)], [.int x0, .ref 44], st_mm s)) rfl ?_
  refine bi_TcI (as := [.ref 44, .int x0]) rfl rfl ?_
  refine cI.mono h (fun r1 s1 h => ?_) (fun _ _ h => h.elim)
  refine bi_Tr 1 (s' := ((if ¬ r1 = 0 then 10 else 8), [(0, .ref 44), (1, .int x0)], [], st_mm s1)) rfl (bi_Tif (fun hc => ?_) (fun hc => ?_))
  · have h := h.1 hc
    refine bi_Tr 2 (s' := (12, [(2, .int (0 : Int32)), (0, .ref 44), (1, .int x0)], [], st_mm s1)) rfl ?_
    exact bi_Tww h rfl rfl ⟨rfl, rfl, rfl, trivial⟩
  · have h := h.2 hc
    refine bi_Tr 1 (s' := (9, [(0, .ref 44), (1, .int x0)], [.int (0 : Int32)], st_mm s1)) rfl ?_
    exact bi_Tv rfl rfl (Or.inl ⟨_, _, rfl, h⟩)
def at_X4_readProduct_12 (X : bi_X) (d : Nat) (K : Int32 → bi_St → Prop) (E : Nat → bi_St → Prop) (s : bi_St) (y1 : Int32) (y2 : Int32) : Prop := bi_T X d 57 (12, [(0, .ref 44), (1, .int y1), (2, .int y2)], [], st_mm s) (st_RI K E)
def at_X4_readProduct_125 (X : bi_X) (d : Nat) (K : Int32 → bi_St → Prop) (E : Nat → bi_St → Prop) (s : bi_St)  : Prop := bi_T X d 57 (125, [], [], st_mm s) (st_RI K E)
def at_X4_readProduct_43 (X : bi_X) (d : Nat) (K : Int32 → bi_St → Prop) (E : Nat → bi_St → Prop) (s : bi_St) (y1 : Int32) (y2 : Int32) : Prop := bi_T X d 57 (43, [(0, .ref 44), (1, .int y1), (2, .int y2)], [], st_mm s) (st_RI K E)
def at_X4_readProduct_90 (X : bi_X) (d : Nat) (K : Int32 → bi_St → Prop) (E : Nat → bi_St → Prop) (s : bi_St) (y1 : Int32) (y2 : Int32) (y3 : Int32) : Prop := bi_T X d 57 (90, [(0, .ref 44), (1, .int y1), (2, .int y2), (3, .int y3)], [], st_mm s) (st_RI K E)
def at_X4_readProduct_85 (X : bi_X) (d : Nat) (K : Int32 → bi_St → Prop) (E : Nat → bi_St → Prop) (s : bi_St) (y1 : Int32) (y2 : Int32) (y3 : Int32) : Prop := bi_T X d 57 (85, [(0, .ref 44), (1, .int y1), (2, .int y2), (3, .int y3)], [], st_mm s) (st_RI K E)
theorem go_X4_readProduct_12 {X : bi_X} {d : Nat} {K : Int32 → bi_St → Prop} {E : Nat → bi_St → Prop}  {s : bi_St} {y1 : Int32} {y2 : Int32}  (h : (((700 : Int32) ≤ y2) → at_X4_readProduct_125 X (d + 1) K E s) ∧ (¬ ((700 : Int32) ≤ y2) → cI X d 97 [.ref 1, .int (42 : Int32)] s (fun (r2 : Int32) (s2 : bi_St) => ((¬ r2 = 0) → at_X4_readProduct_43 X (d + 1) K E s2 (y1) (y2)) ∧ (¬ (¬ r2 = 0) → cI X d 97 [.ref 1, .int (47 : Int32)] s2 (fun (r3 : Int32) (s3 : bi_St) => ((r3 = 0) → at_X4_readProduct_125 X (d + 1) K E s3) ∧ (¬ (r3 = 0) → at_X4_readProduct_43 X (d + 1) K E s3 (y1) (y2))) (fun _ _ => False))) (fun _ _ => False))) : at_X4_readProduct_12 X (d + 1) K E s y1 y2 := by
  show bi_T _ _ _ _ _
  refine bi_Tr 3 (s' := ((if (700 : Int32) ≤ y2 then 125 else 19), [(0, .ref 44), (1, .int y1), (2, .int y2)], [], st_mm s)) rfl (bi_Tif (fun hc => ?_) (fun hc => ?_))
  · have h := h.1 hc
    exact bi_Tww h rfl rfl trivial
  · have h := h.2 hc
    refine bi_Tr 3 (s' := (25, [(0, .ref 44), (1, .int y1), (2, .int y2)], [.int (42 : Int32), .ref 1], st_mm s)) rfl ?_
    refine bi_TcI (as := [.ref 1, .int (42 : Int32)]) rfl rfl ?_
    refine cI.mono h (fun r2 s2 h => ?_) (fun _ _ h => h.elim)
    refine bi_Tr 1 (s' := ((if ¬ r2 = 0 then 43 else 31), [(0, .ref 44), (1, .int y1), (2, .int y2)], [], st_mm s2)) rfl (bi_Tif (fun hc => ?_) (fun hc => ?_))
    · have h := h.1 hc
      exact bi_Tww h rfl rfl ⟨rfl, rfl, rfl, trivial⟩
    · have h := h.2 hc
      refine bi_Tr 3 (s' := (37, [(0, .ref 44), (1, .int y1), (2, .int y2)], [.int (47 : Int32), .ref 1], st_mm s2)) rfl ?_
      refine bi_TcI (as := [.ref 1, .int (47 : Int32)]) rfl rfl ?_
      refine cI.mono h (fun r3 s3 h => ?_) (fun _ _ h => h.elim)
      refine bi_Tr 1 (s' := ((if r3 = 0 then 125 else 43), [(0, .ref 44), (1, .int y1), (2, .int y2)], [], st_mm s3)) rfl (bi_Tif (fun hc => ?_) (fun hc => ?_))
      · have h := h.1 hc
        exact bi_Tww h rfl rfl trivial
      · have h := h.2 hc
        exact bi_Tww h rfl rfl ⟨rfl, rfl, rfl, trivial⟩
theorem go_X4_readProduct_125 {X : bi_X} {d : Nat} {K : Int32 → bi_St → Prop} {E : Nat → bi_St → Prop}  {s : bi_St}   (h : K (1 : Int32) s) : at_X4_readProduct_125 X (d + 1) K E s  := by
  show bi_T _ _ _ _ _
  refine bi_Tr 1 (s' := (126, [], [.int (1 : Int32)], st_mm s)) rfl ?_
  exact bi_Tv rfl rfl (Or.inl ⟨_, _, rfl, h⟩)
theorem go_X4_readProduct_43 {X : bi_X} {d : Nat} {K : Int32 → bi_St → Prop} {E : Nat → bi_St → Prop}  {s : bi_St} {y1 : Int32} {y2 : Int32}  (h : cI X d 97 [.ref 1, .int (42 : Int32)] s (fun (r4 : Int32) (s4 : bi_St) => cV X d 94 [.ref 1] s4 (fun (s5 : bi_St) => ((¬ r4 = 0) → at_X4_readProduct_90 X (d + 1) K E s5 (y1) (y2) (r4)) ∧ (¬ (¬ r4 = 0) → ((¬ (st_g s5 1 3) = (2 : Int32)) → at_X4_readProduct_85 X (d + 1) K E s5 (y1) (y2) (r4)) ∧ (¬ (¬ (st_g s5 1 3) = (2 : Int32)) → ((¬ (st_g s5 1 6) = 0) → at_X4_readProduct_90 X (d + 1) K E s5 (y1) (y2) (r4)) ∧ (¬ (¬ (st_g s5 1 6) = 0) → at_X4_readProduct_85 X (d + 1) K E s5 (y1) (y2) (r4))))) (fun _ _ => False)) (fun _ _ => False)) : at_X4_readProduct_43 X (d + 1) K E s y1 y2 := by
  show bi_T _ _ _ _ _
  refine bi_Tr 3 (s' := (49, [(0, .ref 44), (1, .int y1), (2, .int y2)], [.int (42 : Int32), .ref 1], st_mm s)) rfl ?_
  refine bi_TcI (as := [.ref 1, .int (42 : Int32)]) rfl rfl ?_
  refine cI.mono h (fun r4 s4 h => ?_) (fun _ _ h => h.elim)
  refine bi_Tr 3 (s' := (57, [(3, .int r4), (0, .ref 44), (1, .int y1), (2, .int y2)], [.ref 1], st_mm s4)) rfl ?_
  refine bi_TcV (as := [.ref 1]) rfl rfl ?_
  refine cV.mono h (fun s5 h => ?_) (fun _ _ h => h.elim)
  refine bi_Tr 2 (s' := ((if ¬ r4 = 0 then 90 else 64), [(3, .int r4), (0, .ref 44), (1, .int y1), (2, .int y2)], [], st_mm s5)) rfl (bi_Tif (fun hc => ?_) (fun hc => ?_))
  · have h := h.1 hc
    exact bi_Tww h rfl rfl ⟨rfl, rfl, rfl, rfl, trivial⟩
  · have h := h.2 hc
    refine bi_Tr 5 (s' := ((if ¬ (st_g s5 1 3) = (2 : Int32) then 85 else 75), [(3, .int r4), (0, .ref 44), (1, .int y1), (2, .int y2)], [], st_mm s5)) rfl (bi_Tif (fun hc => ?_) (fun hc => ?_))
    · have h := h.1 hc
      exact bi_Tww h rfl rfl ⟨rfl, rfl, rfl, rfl, trivial⟩
    · have h := h.2 hc
      refine bi_Tr 4 (s' := ((if ¬ (st_g s5 1 6) = 0 then 90 else 85), [(3, .int r4), (0, .ref 44), (1, .int y1), (2, .int y2)], [], st_mm s5)) rfl (bi_Tif (fun hc => ?_) (fun hc => ?_))
      · have h := h.1 hc
        exact bi_Tww h rfl rfl ⟨rfl, rfl, rfl, rfl, trivial⟩
      · have h := h.2 hc
        exact bi_Tww h rfl rfl ⟨rfl, rfl, rfl, rfl, trivial⟩
theorem go_X4_readProduct_90 {X : bi_X} {d : Nat} {K : Int32 → bi_St → Prop} {E : Nat → bi_St → Prop}  {s : bi_St} {y1 : Int32} {y2 : Int32} {y3 : Int32}  (h : cI X d 58 [.ref 44, .int y1] s (fun (r6 : Int32) (s6 : bi_St) => ((¬ r6 = 0) → st_isR (st_gp s6 6) ∧ (((y3 = 0) → cV X d 64 [.ref (st_gp s6 6), .int (9 : Int32), .int (0 : Int32)] s6 (fun (s7 : bi_St) => at_X4_readProduct_12 X (d + 1) K E s7 (y1) ((y2 + (1 : Int32)))) (fun _ _ => False)) ∧ (¬ (y3 = 0) → cV X d 64 [.ref (st_gp s6 6), .int (8 : Int32), .int (0 : Int32)] s6 (fun (s8 : bi_St) => at_X4_readProduct_12 X (d + 1) K E s8 (y1) ((y2 + (1 : Int32)))) (fun _ _ => False)))) ∧ (¬ (¬ r6 = 0) → K (0 : Int32) s6)) (fun _ _ => False)) : at_X4_readProduct_90 X (d + 1) K E s y1 y2 y3 := by
  show bi_T _ _ _ _ _
  refine bi_Tr 2 (s' := (92, [(0, .ref 44), (1, .int y1), (2, .int y2), (3, .int y3)], [.int y1, .ref 44], st_mm s)) rfl ?_
  refine bi_TcI (as := [.ref 44, .int y1]) rfl rfl ?_
  refine cI.mono h (fun r6 s6 h => ?_) (fun _ _ h => h.elim)
  refine bi_Tr 1 (s' := ((if ¬ r6 = 0 then 100 else 98), [(0, .ref 44), (1, .int y1), (2, .int y2), (3, .int y3)], [], st_mm s6)) rfl (bi_Tif (fun hc => ?_) (fun hc => ?_))
  · have h := h.1 hc
    obtain ⟨h0q1_101, h⟩ := h
    refine bi_Tr 4 (s' := ((if y3 = 0 then 113 else 108), [(0, .ref 44), (1, .int y1), (2, .int y2), (3, .int y3)], [.ref (st_gp s6 6)], st_mm s6)) rfl (bi_Tif (fun hc => ?_) (fun hc => ?_))
    · have h := h.1 hc
      refine bi_Tr 2 (s' := (116, [(0, .ref 44), (1, .int y1), (2, .int y2), (3, .int y3)], [.int (0 : Int32), .int (9 : Int32), .ref (st_gp s6 6)], st_mm s6)) rfl ?_
      refine bi_TcV (as := [.ref (st_gp s6 6), .int (9 : Int32), .int (0 : Int32)]) (bi_TcO rfl rfl rfl (st_kR0 h0q1_101) rfl rfl) rfl ?_
      refine cV.mono h (fun s7 h => ?_) (fun _ _ h => h.elim)
      refine bi_Tr 2 (s' := (12, [(2, .int (y2 + (1 : Int32))), (0, .ref 44), (1, .int y1), (3, .int y3)], [], st_mm s7)) rfl ?_
      exact bi_Tww h rfl rfl ⟨rfl, rfl, rfl, trivial⟩
    · have h := h.2 hc
      refine bi_Tr 3 (s' := (116, [(0, .ref 44), (1, .int y1), (2, .int y2), (3, .int y3)], [.int (0 : Int32), .int (8 : Int32), .ref (st_gp s6 6)], st_mm s6)) rfl ?_
      refine bi_TcV (as := [.ref (st_gp s6 6), .int (8 : Int32), .int (0 : Int32)]) (bi_TcO rfl rfl rfl (st_kR0 h0q1_101) rfl rfl) rfl ?_
      refine cV.mono h (fun s8 h => ?_) (fun _ _ h => h.elim)
      refine bi_Tr 2 (s' := (12, [(2, .int (y2 + (1 : Int32))), (0, .ref 44), (1, .int y1), (3, .int y3)], [], st_mm s8)) rfl ?_
      exact bi_Tww h rfl rfl ⟨rfl, rfl, rfl, trivial⟩
  · have h := h.2 hc
    refine bi_Tr 1 (s' := (99, [(0, .ref 44), (1, .int y1), (2, .int y2), (3, .int y3)], [.int (0 : Int32)], st_mm s6)) rfl ?_
    exact bi_Tv rfl rfl (Or.inl ⟨_, _, rfl, h⟩)
theorem go_X4_readProduct_85 {X : bi_X} {d : Nat} {K : Int32 → bi_St → Prop} {E : Nat → bi_St → Prop}  {s : bi_St} {y1 : Int32} {y2 : Int32} {y3 : Int32}  (h : at_X4_readProduct_90 X (d + 1) K E (st_p s 44 4 (0 : Int32)) (y1) (y2) (y3)) : at_X4_readProduct_85 X (d + 1) K E s y1 y2 y3 := by
  show bi_T _ _ _ _ _
  refine bi_Tr 2 (s' := (87, [(0, .ref 44), (1, .int y1), (2, .int y2), (3, .int y3)], [.int (0 : Int32), .ref 44], st_mm s)) rfl ?_
  refine bi_Tpz rfl rfl rfl rfl rfl rfl ?_
  exact bi_Tww h rfl rfl ⟨rfl, rfl, rfl, rfl, trivial⟩
/-- PolicyRows$RuleReader.readProduct(I)Z -/
theorem en_X4_readProduct {X : bi_X} {d : Nat} {K : Int32 → bi_St → Prop} {E : Nat → bi_St → Prop} {s : bi_St} {x0 : Int32}  (h : cI X d 58 [.ref 44, .int x0] s (fun (r1 : Int32) (s1 : bi_St) => ((¬ r1 = 0) → at_X4_readProduct_12 X (d + 1) K E s1 (x0) ((0 : Int32))) ∧ (¬ (¬ r1 = 0) → K (0 : Int32) s1)) (fun _ _ => False)) : cI X (d + 1) 57 [.ref 44, .int x0] s K E := by
  show bi_T _ _ _ _ _
  refine bi_Tr 2 (s' := (2, [(0, .ref 44), (1, .int x0)], [.int x0, .ref 44], st_mm s)) rfl ?_
  refine bi_TcI (as := [.ref 44, .int x0]) rfl rfl ?_
  refine cI.mono h (fun r1 s1 h => ?_) (fun _ _ h => h.elim)
  refine bi_Tr 1 (s' := ((if ¬ r1 = 0 then 10 else 8), [(0, .ref 44), (1, .int x0)], [], st_mm s1)) rfl (bi_Tif (fun hc => ?_) (fun hc => ?_))
  · have h := h.1 hc
    refine bi_Tr 2 (s' := (12, [(2, .int (0 : Int32)), (0, .ref 44), (1, .int x0)], [], st_mm s1)) rfl ?_
    exact bi_Tww h rfl rfl ⟨rfl, rfl, rfl, trivial⟩
  · have h := h.2 hc
    refine bi_Tr 1 (s' := (9, [(0, .ref 44), (1, .int x0)], [.int (0 : Int32)], st_mm s1)) rfl ?_
    exact bi_Tv rfl rfl (Or.inl ⟨_, _, rfl, h⟩)
/-- PolicyRows$RuleReader.readPart(I)Z -/
theorem en_X4_readPart {X : bi_X} {d : Nat} {K : Int32 → bi_St → Prop} {E : Nat → bi_St → Prop} {s : bi_St} {x0 : Int32}  (h : ((¬ (st_g s 1 3) = (1 : Int32)) → cI X d 97 [.ref 1, .int (40 : Int32)] s (fun (r1 : Int32) (s1 : bi_St) => ((r1 = 0) → cI X d 101 [.ref 1, .int (9999 : Int32), .int (2 : Int32)] s1 (fun (r2 : Int32) (s2 : bi_St) => ((¬ r2 = 0) → st_isR (st_gp s2 6) ∧ (cV X d 64 [.ref (st_gp s2 6), .int (0 : Int32), .int (st_g s2 1 6)] s2 (fun (s3 : bi_St) => cV X d 94 [.ref 1] s3 (fun (s4 : bi_St) => K (1 : Int32) s4) (fun _ _ => False)) (fun _ _ => False))) ∧ (¬ (¬ r2 = 0) → K (0 : Int32) s2)) (fun _ _ => False)) ∧ (¬ (r1 = 0) → cI X d 61 [.ref 44, .int x0] s1 (fun (r5 : Int32) (s5 : bi_St) => bi_bool r5 = true ∧ (K r5 s5)) (fun _ _ => False))) (fun _ _ => False)) ∧ (¬ (¬ (st_g s 1 3) = (1 : Int32)) → cI X d 59 [.ref 44, .int x0] s (fun (r6 : Int32) (s6 : bi_St) => bi_bool r6 = true ∧ (K r6 s6)) (fun _ _ => False))) : cI X (d + 1) 58 [.ref 44, .int x0] s K E := by
  show bi_T _ _ _ _ _
  refine bi_Tr 5 (s' := ((if ¬ (st_g s 1 3) = (1 : Int32) then 17 else 11), [(0, .ref 44), (1, .int x0)], [], st_mm s)) rfl (bi_Tif (fun hc => ?_) (fun hc => ?_))
  · have h := h.1 hc
    refine bi_Tr 3 (s' := (23, [(0, .ref 44), (1, .int x0)], [.int (40 : Int32), .ref 1], st_mm s)) rfl ?_
    refine bi_TcI (as := [.ref 1, .int (40 : Int32)]) rfl rfl ?_
    refine cI.mono h (fun r1 s1 h => ?_) (fun _ _ h => h.elim)
    refine bi_Tr 1 (s' := ((if r1 = 0 then 35 else 29), [(0, .ref 44), (1, .int x0)], [], st_mm s1)) rfl (bi_Tif (fun hc => ?_) (fun hc => ?_))
    · have h := h.1 hc
      refine bi_Tr 4 (s' := (43, [(0, .ref 44), (1, .int x0)], [.int (2 : Int32), .int (9999 : Int32), .ref 1], st_mm s1)) rfl ?_
      refine bi_TcI (as := [.ref 1, .int (9999 : Int32), .int (2 : Int32)]) rfl rfl ?_
      refine cI.mono h (fun r2 s2 h => ?_) (fun _ _ h => h.elim)
      refine bi_Tr 1 (s' := ((if ¬ r2 = 0 then 51 else 49), [(0, .ref 44), (1, .int x0)], [], st_mm s2)) rfl (bi_Tif (fun hc => ?_) (fun hc => ?_))
      · have h := h.1 hc
        obtain ⟨h0q3_52, h⟩ := h
        refine bi_Tr 6 (s' := (63, [(0, .ref 44), (1, .int x0)], [.int (st_g s2 1 6), .int (0 : Int32), .ref (st_gp s2 6)], st_mm s2)) rfl ?_
        refine bi_TcV (as := [.ref (st_gp s2 6), .int (0 : Int32), .int (st_g s2 1 6)]) (bi_TcO rfl rfl rfl (st_kR0 h0q3_52) rfl rfl) rfl ?_
        refine cV.mono h (fun s3 h => ?_) (fun _ _ h => h.elim)
        refine bi_Tr 2 (s' := (70, [(0, .ref 44), (1, .int x0)], [.ref 1], st_mm s3)) rfl ?_
        refine bi_TcV (as := [.ref 1]) rfl rfl ?_
        refine cV.mono h (fun s4 h => ?_) (fun _ _ h => h.elim)
        refine bi_Tr 1 (s' := (74, [(0, .ref 44), (1, .int x0)], [.int (1 : Int32)], st_mm s4)) rfl ?_
        exact bi_Tv rfl rfl (Or.inl ⟨_, _, rfl, h⟩)
      · have h := h.2 hc
        refine bi_Tr 1 (s' := (50, [(0, .ref 44), (1, .int x0)], [.int (0 : Int32)], st_mm s2)) rfl ?_
        exact bi_Tv rfl rfl (Or.inl ⟨_, _, rfl, h⟩)
    · have h := h.2 hc
      refine bi_Tr 2 (s' := (31, [(0, .ref 44), (1, .int x0)], [.int x0, .ref 44], st_mm s1)) rfl ?_
      refine bi_TcI (as := [.ref 44, .int x0]) rfl rfl ?_
      refine cI.mono h (fun r5 s5 h => ?_) (fun _ _ h => h.elim)
      obtain ⟨hi, h⟩ := h
      exact bi_Tv rfl hi (Or.inl ⟨_, _, rfl, h⟩)
  · have h := h.2 hc
    refine bi_Tr 2 (s' := (13, [(0, .ref 44), (1, .int x0)], [.int x0, .ref 44], st_mm s)) rfl ?_
    refine bi_TcI (as := [.ref 44, .int x0]) rfl rfl ?_
    refine cI.mono h (fun r6 s6 h => ?_) (fun _ _ h => h.elim)
    obtain ⟨hi, h⟩ := h
    exact bi_Tv rfl hi (Or.inl ⟨_, _, rfl, h⟩)
/-- PolicyRows$RuleReader.readWord(I)Z -/
theorem en_X4_readWord {X : bi_X} {d : Nat} {K : Int32 → bi_St → Prop} {E : Nat → bi_St → Prop} {s : bi_St} {x0 : Int32}  (h : cI X d 98 [.ref 1, .int (st_g s 44 2)] s (fun (r1 : Int32) (s1 : bi_St) => ((r1 = (-1 : Int32)) → cI X d 96 [.ref 1, .ref 5003] s1 (fun (r2 : Int32) (s2 : bi_St) => ((r2 = 0) → cI X d 96 [.ref 1, .ref 5004] s2 (fun (r3 : Int32) (s3 : bi_St) => ((r3 = 0) → cI X d 96 [.ref 1, .ref 5005] s3 (fun (r4 : Int32) (s4 : bi_St) => ((¬ r4 = 0) → cV X d 94 [.ref 1] s4 (fun (s5 : bi_St) => cI X d 61 [.ref 44, .int x0] (st_p s5 44 4 (0 : Int32)) (fun (r6 : Int32) (s6 : bi_St) => ((¬ r6 = 0) → st_isR (st_gp s6 6) ∧ (cV X d 64 [.ref (st_gp s6 6), .int (4 : Int32), .int (0 : Int32)] s6 (fun (s7 : bi_St) => K (1 : Int32) s7) (fun _ _ => False))) ∧ (¬ (¬ r6 = 0) → K (0 : Int32) s6)) (fun _ _ => False)) (fun _ _ => False)) ∧ (¬ (¬ r4 = 0) → cI X d 99 [.ref 1, .int (3 : Int32)] s4 (fun (r8 : Int32) (s8 : bi_St) => bi_bool r8 = true ∧ (K r8 s8)) (fun _ _ => False))) (fun _ _ => False)) ∧ (¬ (r3 = 0) → cI X d 60 [.ref 44] s3 (fun (r9 : Int32) (s9 : bi_St) => bi_bool r9 = true ∧ (K r9 s9)) (fun _ _ => False))) (fun _ _ => False)) ∧ (¬ (r2 = 0) → st_isR (st_gp s2 6) ∧ (cV X d 64 [.ref (st_gp s2 6), .int (2 : Int32), .int (0 : Int32)] s2 (fun (s10 : bi_St) => cV X d 94 [.ref 1] s10 (fun (s11 : bi_St) => K (1 : Int32) s11) (fun _ _ => False)) (fun _ _ => False)))) (fun _ _ => False)) ∧ (¬ (r1 = (-1 : Int32)) → st_isR (st_gp s1 6) ∧ (cV X d 64 [.ref (st_gp s1 6), .int (1 : Int32), .int r1] s1 (fun (s12 : bi_St) => cV X d 94 [.ref 1] s12 (fun (s13 : bi_St) => K (1 : Int32) s13) (fun _ _ => False)) (fun _ _ => False)))) (fun _ _ => False)) : cI X (d + 1) 59 [.ref 44, .int x0] s K E := by
  show bi_T _ _ _ _ _
  refine bi_Tr 4 (s' := (8, [(0, .ref 44), (1, .int x0)], [.int (st_g s 44 2), .ref 1], st_mm s)) rfl ?_
  refine bi_TcI (as := [.ref 1, .int (st_g s 44 2)]) rfl rfl ?_
  refine cI.mono h (fun r1 s1 h => ?_) (fun _ _ h => h.elim)
  refine bi_Tr 4 (s' := ((if r1 = (-1 : Int32) then 35 else 17), [(2, .int r1), (0, .ref 44), (1, .int x0)], [], st_mm s1)) rfl (bi_Tif (fun hc => ?_) (fun hc => ?_))
  · have h := h.1 hc
    refine bi_Tr 3 (s' := (41, [(2, .int r1), (0, .ref 44), (1, .int x0)], [.ref 5003, .ref 1], st_mm s1)) rfl ?_
    refine bi_TcI (as := [.ref 1, .ref 5003]) rfl rfl ?_
    refine cI.mono h (fun r2 s2 h => ?_) (fun _ _ h => h.elim)
    refine bi_Tr 1 (s' := ((if r2 = 0 then 65 else 47), [(2, .int r1), (0, .ref 44), (1, .int x0)], [], st_mm s2)) rfl (bi_Tif (fun hc => ?_) (fun hc => ?_))
    · have h := h.1 hc
      refine bi_Tr 3 (s' := (71, [(2, .int r1), (0, .ref 44), (1, .int x0)], [.ref 5004, .ref 1], st_mm s2)) rfl ?_
      refine bi_TcI (as := [.ref 1, .ref 5004]) rfl rfl ?_
      refine cI.mono h (fun r3 s3 h => ?_) (fun _ _ h => h.elim)
      refine bi_Tr 1 (s' := ((if r3 = 0 then 82 else 77), [(2, .int r1), (0, .ref 44), (1, .int x0)], [], st_mm s3)) rfl (bi_Tif (fun hc => ?_) (fun hc => ?_))
      · have h := h.1 hc
        refine bi_Tr 3 (s' := (88, [(2, .int r1), (0, .ref 44), (1, .int x0)], [.ref 5005, .ref 1], st_mm s3)) rfl ?_
        refine bi_TcI (as := [.ref 1, .ref 5005]) rfl rfl ?_
        refine cI.mono h (fun r4 s4 h => ?_) (fun _ _ h => h.elim)
        refine bi_Tr 1 (s' := ((if ¬ r4 = 0 then 103 else 94), [(2, .int r1), (0, .ref 44), (1, .int x0)], [], st_mm s4)) rfl (bi_Tif (fun hc => ?_) (fun hc => ?_))
        · have h := h.1 hc
          refine bi_Tr 2 (s' := (107, [(2, .int r1), (0, .ref 44), (1, .int x0)], [.ref 1], st_mm s4)) rfl ?_
          refine bi_TcV (as := [.ref 1]) rfl rfl ?_
          refine cV.mono h (fun s5 h => ?_) (fun _ _ h => h.elim)
          refine bi_Tr 2 (s' := (112, [(2, .int r1), (0, .ref 44), (1, .int x0)], [.int (0 : Int32), .ref 44], st_mm s5)) rfl ?_
          refine bi_Tpz rfl rfl rfl rfl rfl rfl ?_
          refine bi_Tr 2 (s' := (117, [(2, .int r1), (0, .ref 44), (1, .int x0)], [.int x0, .ref 44], st_mm (st_p s5 44 4 (0 : Int32)))) rfl ?_
          refine bi_TcI (as := [.ref 44, .int x0]) rfl rfl ?_
          refine cI.mono h (fun r6 s6 h => ?_) (fun _ _ h => h.elim)
          refine bi_Tr 1 (s' := ((if ¬ r6 = 0 then 125 else 123), [(2, .int r1), (0, .ref 44), (1, .int x0)], [], st_mm s6)) rfl (bi_Tif (fun hc => ?_) (fun hc => ?_))
          · have h := h.1 hc
            obtain ⟨h0q5_126, h⟩ := h
            refine bi_Tr 4 (s' := (131, [(2, .int r1), (0, .ref 44), (1, .int x0)], [.int (0 : Int32), .int (4 : Int32), .ref (st_gp s6 6)], st_mm s6)) rfl ?_
            refine bi_TcV (as := [.ref (st_gp s6 6), .int (4 : Int32), .int (0 : Int32)]) (bi_TcO rfl rfl rfl (st_kR0 h0q5_126) rfl rfl) rfl ?_
            refine cV.mono h (fun s7 h => ?_) (fun _ _ h => h.elim)
            refine bi_Tr 1 (s' := (135, [(2, .int r1), (0, .ref 44), (1, .int x0)], [.int (1 : Int32)], st_mm s7)) rfl ?_
            exact bi_Tv rfl rfl (Or.inl ⟨_, _, rfl, h⟩)
          · have h := h.2 hc
            refine bi_Tr 1 (s' := (124, [(2, .int r1), (0, .ref 44), (1, .int x0)], [.int (0 : Int32)], st_mm s6)) rfl ?_
            exact bi_Tv rfl rfl (Or.inl ⟨_, _, rfl, h⟩)
        · have h := h.2 hc
          refine bi_Tr 3 (s' := (99, [(2, .int r1), (0, .ref 44), (1, .int x0)], [.int (3 : Int32), .ref 1], st_mm s4)) rfl ?_
          refine bi_TcI (as := [.ref 1, .int (3 : Int32)]) rfl rfl ?_
          refine cI.mono h (fun r8 s8 h => ?_) (fun _ _ h => h.elim)
          obtain ⟨hi, h⟩ := h
          exact bi_Tv rfl hi (Or.inl ⟨_, _, rfl, h⟩)
      · have h := h.2 hc
        refine bi_Tr 1 (s' := (78, [(2, .int r1), (0, .ref 44), (1, .int x0)], [.ref 44], st_mm s3)) rfl ?_
        refine bi_TcI (as := [.ref 44]) rfl rfl ?_
        refine cI.mono h (fun r9 s9 h => ?_) (fun _ _ h => h.elim)
        obtain ⟨hi, h⟩ := h
        exact bi_Tv rfl hi (Or.inl ⟨_, _, rfl, h⟩)
    · have h := h.2 hc
      obtain ⟨h0q2_48, h⟩ := h
      refine bi_Tr 4 (s' := (53, [(2, .int r1), (0, .ref 44), (1, .int x0)], [.int (0 : Int32), .int (2 : Int32), .ref (st_gp s2 6)], st_mm s2)) rfl ?_
      refine bi_TcV (as := [.ref (st_gp s2 6), .int (2 : Int32), .int (0 : Int32)]) (bi_TcO rfl rfl rfl (st_kR0 h0q2_48) rfl rfl) rfl ?_
      refine cV.mono h (fun s10 h => ?_) (fun _ _ h => h.elim)
      refine bi_Tr 2 (s' := (60, [(2, .int r1), (0, .ref 44), (1, .int x0)], [.ref 1], st_mm s10)) rfl ?_
      refine bi_TcV (as := [.ref 1]) rfl rfl ?_
      refine cV.mono h (fun s11 h => ?_) (fun _ _ h => h.elim)
      refine bi_Tr 1 (s' := (64, [(2, .int r1), (0, .ref 44), (1, .int x0)], [.int (1 : Int32)], st_mm s11)) rfl ?_
      exact bi_Tv rfl rfl (Or.inl ⟨_, _, rfl, h⟩)
  · have h := h.2 hc
    obtain ⟨h0q1_18, h⟩ := h
    refine bi_Tr 4 (s' := (23, [(2, .int r1), (0, .ref 44), (1, .int x0)], [.int r1, .int (1 : Int32), .ref (st_gp s1 6)], st_mm s1)) rfl ?_
    refine bi_TcV (as := [.ref (st_gp s1 6), .int (1 : Int32), .int r1]) (bi_TcO rfl rfl rfl (st_kR0 h0q1_18) rfl rfl) rfl ?_
    refine cV.mono h (fun s12 h => ?_) (fun _ _ h => h.elim)
    refine bi_Tr 2 (s' := (30, [(2, .int r1), (0, .ref 44), (1, .int x0)], [.ref 1], st_mm s12)) rfl ?_
    refine bi_TcV (as := [.ref 1]) rfl rfl ?_
    refine cV.mono h (fun s13 h => ?_) (fun _ _ h => h.elim)
    refine bi_Tr 1 (s' := (34, [(2, .int r1), (0, .ref 44), (1, .int x0)], [.int (1 : Int32)], st_mm s13)) rfl ?_
    exact bi_Tv rfl rfl (Or.inl ⟨_, _, rfl, h⟩)
/-- PolicyRows$RuleReader.readHas()Z -/
theorem en_X4_readHas {X : bi_X} {d : Nat} {K : Int32 → bi_St → Prop} {E : Nat → bi_St → Prop} {s : bi_St}   (h : cV X d 94 [.ref 1] s (fun (s1 : bi_St) => cI X d 101 [.ref 1, .int ((st_g s1 44 3) - (1 : Int32)), .int (3 : Int32)] s1 (fun (r2 : Int32) (s2 : bi_St) => ((¬ r2 = 0) → st_isR (st_gp s2 6) ∧ (cV X d 64 [.ref (st_gp s2 6), .int (3 : Int32), .int (st_g s2 1 6)] s2 (fun (s3 : bi_St) => cV X d 94 [.ref 1] s3 (fun (s4 : bi_St) => K (1 : Int32) (st_p s4 1 8 ((st_g s4 1 8) - (1 : Int32)))) (fun _ _ => False)) (fun _ _ => False))) ∧ (¬ (¬ r2 = 0) → K (0 : Int32) s2)) (fun _ _ => False)) (fun _ _ => False)) : cI X (d + 1) 60 [.ref 44] s K E := by
  show bi_T _ _ _ _ _
  refine bi_Tr 2 (s' := (4, [(0, .ref 44)], [.ref 1], st_mm s)) rfl ?_
  refine bi_TcV (as := [.ref 1]) rfl rfl ?_
  refine cV.mono h (fun s1 h => ?_) (fun _ _ h => h.elim)
  refine bi_Tr 7 (s' := (18, [(0, .ref 44)], [.int (3 : Int32), .int ((st_g s1 44 3) - (1 : Int32)), .ref 1], st_mm s1)) rfl ?_
  refine bi_TcI (as := [.ref 1, .int ((st_g s1 44 3) - (1 : Int32)), .int (3 : Int32)]) rfl rfl ?_
  refine cI.mono h (fun r2 s2 h => ?_) (fun _ _ h => h.elim)
  refine bi_Tr 1 (s' := ((if ¬ r2 = 0 then 26 else 24), [(0, .ref 44)], [], st_mm s2)) rfl (bi_Tif (fun hc => ?_) (fun hc => ?_))
  · have h := h.1 hc
    obtain ⟨h0q1_27, h⟩ := h
    refine bi_Tr 6 (s' := (38, [(0, .ref 44)], [.int (st_g s2 1 6), .int (3 : Int32), .ref (st_gp s2 6)], st_mm s2)) rfl ?_
    refine bi_TcV (as := [.ref (st_gp s2 6), .int (3 : Int32), .int (st_g s2 1 6)]) (bi_TcO rfl rfl rfl (st_kR0 h0q1_27) rfl rfl) rfl ?_
    refine cV.mono h (fun s3 h => ?_) (fun _ _ h => h.elim)
    refine bi_Tr 2 (s' := (45, [(0, .ref 44)], [.ref 1], st_mm s3)) rfl ?_
    refine bi_TcV (as := [.ref 1]) rfl rfl ?_
    refine cV.mono h (fun s4 h => ?_) (fun _ _ h => h.elim)
    refine bi_Tr 8 (s' := (62, [(0, .ref 44)], [.int (1 : Int32)], st_mm (st_p s4 1 8 ((st_g s4 1 8) - (1 : Int32))))) rfl ?_
    exact bi_Tv rfl rfl (Or.inl ⟨_, _, rfl, h⟩)
  · have h := h.2 hc
    refine bi_Tr 1 (s' := (25, [(0, .ref 44)], [.int (0 : Int32)], st_mm s2)) rfl ?_
    exact bi_Tv rfl rfl (Or.inl ⟨_, _, rfl, h⟩)
/-- PolicyRows$RuleReader.readWithin(I)Z -/
theorem en_X4_readWithin {X : bi_X} {d : Nat} {K : Int32 → bi_St → Prop} {E : Nat → bi_St → Prop} {s : bi_St} {x0 : Int32}  (h : cI X d 100 [.ref 1, .int (40 : Int32)] s (fun (r1 : Int32) (s1 : bi_St) => ((r1 = 0) → K (0 : Int32) s1) ∧ (¬ (r1 = 0) → cI X d 52 [.ref 44, .int (x0 + (1 : Int32))] s1 (fun (r2 : Int32) (s2 : bi_St) => ((r2 = 0) → K (0 : Int32) s2) ∧ (¬ (r2 = 0) → cI X d 100 [.ref 1, .int (41 : Int32)] s2 (fun (r3 : Int32) (s3 : bi_St) => ((r3 = 0) → K (0 : Int32) s3) ∧ (¬ (r3 = 0) → K (1 : Int32) s3)) (fun _ _ => False))) (fun _ _ => False))) (fun _ _ => False)) : cI X (d + 1) 61 [.ref 44, .int x0] s K E := by
  show bi_T _ _ _ _ _
  refine bi_Tr 3 (s' := (6, [(0, .ref 44), (1, .int x0)], [.int (40 : Int32), .ref 1], st_mm s)) rfl ?_
  refine bi_TcI (as := [.ref 1, .int (40 : Int32)]) rfl rfl ?_
  refine cI.mono h (fun r1 s1 h => ?_) (fun _ _ h => h.elim)
  refine bi_Tr 1 (s' := ((if r1 = 0 then 38 else 12), [(0, .ref 44), (1, .int x0)], [], st_mm s1)) rfl (bi_Tif (fun hc => ?_) (fun hc => ?_))
  · have h := h.1 hc
    refine bi_Tr 1 (s' := (39, [(0, .ref 44), (1, .int x0)], [.int (0 : Int32)], st_mm s1)) rfl ?_
    exact bi_Tv rfl rfl (Or.inl ⟨_, _, rfl, h⟩)
  · have h := h.2 hc
    refine bi_Tr 4 (s' := (16, [(0, .ref 44), (1, .int x0)], [.int (x0 + (1 : Int32)), .ref 44], st_mm s1)) rfl ?_
    refine bi_TcI (as := [.ref 44, .int (x0 + (1 : Int32))]) rfl rfl ?_
    refine cI.mono h (fun r2 s2 h => ?_) (fun _ _ h => h.elim)
    refine bi_Tr 1 (s' := ((if r2 = 0 then 38 else 22), [(0, .ref 44), (1, .int x0)], [], st_mm s2)) rfl (bi_Tif (fun hc => ?_) (fun hc => ?_))
    · have h := h.1 hc
      refine bi_Tr 1 (s' := (39, [(0, .ref 44), (1, .int x0)], [.int (0 : Int32)], st_mm s2)) rfl ?_
      exact bi_Tv rfl rfl (Or.inl ⟨_, _, rfl, h⟩)
    · have h := h.2 hc
      refine bi_Tr 3 (s' := (28, [(0, .ref 44), (1, .int x0)], [.int (41 : Int32), .ref 1], st_mm s2)) rfl ?_
      refine bi_TcI (as := [.ref 1, .int (41 : Int32)]) rfl rfl ?_
      refine cI.mono h (fun r3 s3 h => ?_) (fun _ _ h => h.elim)
      refine bi_Tr 1 (s' := ((if r3 = 0 then 38 else 34), [(0, .ref 44), (1, .int x0)], [], st_mm s3)) rfl (bi_Tif (fun hc => ?_) (fun hc => ?_))
      · have h := h.1 hc
        refine bi_Tr 1 (s' := (39, [(0, .ref 44), (1, .int x0)], [.int (0 : Int32)], st_mm s3)) rfl ?_
        exact bi_Tv rfl rfl (Or.inl ⟨_, _, rfl, h⟩)
      · have h := h.2 hc
        refine bi_Tr 2 (s' := (39, [(0, .ref 44), (1, .int x0)], [.int (1 : Int32)], st_mm s3)) rfl ?_
        exact bi_Tv rfl rfl (Or.inl ⟨_, _, rfl, h⟩)
def at_X9_readConditions_31 (X : bi_X) (d : Nat) (K : Int32 → bi_St → Prop) (E : Nat → bi_St → Prop) (s : bi_St) (y4 : Int32) : Prop := bi_T X d 103 (31, [(0, .ref 43), (4, .int y4)], [], st_mm s) (st_RI K E)
theorem go_X9_readConditions_31 {X : bi_X} {d : Nat} {K : Int32 → bi_St → Prop} {E : Nat → bi_St → Prop}  {s : bi_St} {y4 : Int32}  (h : (((5 : Int32) ≤ y4) → cI X d 51 [.ref 44] s (fun (r4 : Int32) (s4 : bi_St) => ((r4 = 0) → cI X d 99 [.ref 1, .int (1 : Int32)] s4 (fun (r5 : Int32) (s5 : bi_St) => bi_bool r5 = true ∧ (K r5 s5)) (fun _ _ => False)) ∧ (¬ (r4 = 0) → cI X d 99 [.ref 1, .int (2 : Int32)] s4 (fun (r6 : Int32) (s6 : bi_St) => bi_bool r6 = true ∧ (K r6 s6)) (fun _ _ => False))) (fun _ _ => False)) ∧ (¬ ((5 : Int32) ≤ y4) → cI X d 50 [.ref 44] s (fun (r7 : Int32) (s7 : bi_St) => ((¬ r7 = (-1 : Int32)) → ((¬ (st_g s7 1 3) = 0) → cI X d 100 [.ref 1, .int (44 : Int32)] s7 (fun (r8 : Int32) (s8 : bi_St) => ((¬ r8 = 0) → at_X9_readConditions_31 X (d + 1) K E s8 ((y4 + (1 : Int32)))) ∧ (¬ (¬ r8 = 0) → K (0 : Int32) s8)) (fun _ _ => False)) ∧ (¬ (¬ (st_g s7 1 3) = 0) → K (1 : Int32) s7)) ∧ (¬ (¬ r7 = (-1 : Int32)) → K (0 : Int32) s7)) (fun _ _ => False))) : at_X9_readConditions_31 X (d + 1) K E s y4 := by
  show bi_T _ _ _ _ _
  refine bi_Tr 3 (s' := ((if (5 : Int32) ≤ y4 then 82 else 37), [(0, .ref 43), (4, .int y4)], [], st_mm s)) rfl (bi_Tif (fun hc => ?_) (fun hc => ?_))
  · have h := h.1 hc
    refine bi_Tr 4 (s' := (90, [(0, .ref 43), (4, .int y4)], [.ref 44, .ref 1], st_mm s)) rfl ?_
    refine bi_TcI (as := [.ref 44]) rfl rfl ?_
    refine cI.mono h (fun r4 s4 h => ?_) (fun _ _ h => h.elim)
    refine bi_Tr 1 (s' := ((if r4 = 0 then 100 else 96), [(0, .ref 43), (4, .int y4)], [.ref 1], st_mm s4)) rfl (bi_Tif (fun hc => ?_) (fun hc => ?_))
    · have h := h.1 hc
      refine bi_Tr 1 (s' := (101, [(0, .ref 43), (4, .int y4)], [.int (1 : Int32), .ref 1], st_mm s4)) rfl ?_
      refine bi_TcI (as := [.ref 1, .int (1 : Int32)]) rfl rfl ?_
      refine cI.mono h (fun r5 s5 h => ?_) (fun _ _ h => h.elim)
      obtain ⟨hi, h⟩ := h
      exact bi_Tv rfl hi (Or.inl ⟨_, _, rfl, h⟩)
    · have h := h.2 hc
      refine bi_Tr 2 (s' := (101, [(0, .ref 43), (4, .int y4)], [.int (2 : Int32), .ref 1], st_mm s4)) rfl ?_
      refine bi_TcI (as := [.ref 1, .int (2 : Int32)]) rfl rfl ?_
      refine cI.mono h (fun r6 s6 h => ?_) (fun _ _ h => h.elim)
      obtain ⟨hi, h⟩ := h
      exact bi_Tv rfl hi (Or.inl ⟨_, _, rfl, h⟩)
  · have h := h.2 hc
    refine bi_Tr 2 (s' := (41, [(0, .ref 43), (4, .int y4)], [.ref 44], st_mm s)) rfl ?_
    refine bi_TcI (as := [.ref 44]) rfl rfl ?_
    refine cI.mono h (fun r7 s7 h => ?_) (fun _ _ h => h.elim)
    refine bi_Tr 2 (s' := ((if ¬ r7 = (-1 : Int32) then 50 else 48), [(0, .ref 43), (4, .int y4)], [], st_mm s7)) rfl (bi_Tif (fun hc => ?_) (fun hc => ?_))
    · have h := h.1 hc
      refine bi_Tr 4 (s' := ((if ¬ (st_g s7 1 3) = 0 then 62 else 60), [(0, .ref 43), (4, .int y4)], [], st_mm s7)) rfl (bi_Tif (fun hc => ?_) (fun hc => ?_))
      · have h := h.1 hc
        refine bi_Tr 3 (s' := (68, [(0, .ref 43), (4, .int y4)], [.int (44 : Int32), .ref 1], st_mm s7)) rfl ?_
        refine bi_TcI (as := [.ref 1, .int (44 : Int32)]) rfl rfl ?_
        refine cI.mono h (fun r8 s8 h => ?_) (fun _ _ h => h.elim)
        refine bi_Tr 1 (s' := ((if ¬ r8 = 0 then 76 else 74), [(0, .ref 43), (4, .int y4)], [], st_mm s8)) rfl (bi_Tif (fun hc => ?_) (fun hc => ?_))
        · have h := h.1 hc
          refine bi_Tr 2 (s' := (31, [(4, .int (y4 + (1 : Int32))), (0, .ref 43)], [], st_mm s8)) rfl ?_
          exact bi_Tww h rfl rfl ⟨rfl, rfl, trivial⟩
        · have h := h.2 hc
          refine bi_Tr 1 (s' := (75, [(0, .ref 43), (4, .int y4)], [.int (0 : Int32)], st_mm s8)) rfl ?_
          exact bi_Tv rfl rfl (Or.inl ⟨_, _, rfl, h⟩)
      · have h := h.2 hc
        refine bi_Tr 1 (s' := (61, [(0, .ref 43), (4, .int y4)], [.int (1 : Int32)], st_mm s7)) rfl ?_
        exact bi_Tv rfl rfl (Or.inl ⟨_, _, rfl, h⟩)
    · have h := h.2 hc
      refine bi_Tr 1 (s' := (49, [(0, .ref 43), (4, .int y4)], [.int (0 : Int32)], st_mm s7)) rfl ?_
      exact bi_Tv rfl rfl (Or.inl ⟨_, _, rfl, h⟩)
/-- PolicyRows$TextReader.readConditions(ILPolicyRows$Book;LPolicyRows$Rules;)Z -/
theorem en_X9_readConditions {X : bi_X} {d : Nat} {K : Int32 → bi_St → Prop} {E : Nat → bi_St → Prop} {s : bi_St} {x0 : Int32} {a2 : Nat} {a3 : Nat} (ha2 : st_isB a2) (ha3 : st_isR a3) (h : cV X d 63 [.ref a3] s (fun (s1 : bi_St) => cV X d 49 [.ref 44, .ref a3, .int (st_g s1 a2 0), .int (st_g s1 a2 1)] s1 (fun (s2 : bi_St) => cV X d 93 [.ref 1, .int x0] s2 (fun (s3 : bi_St) => at_X9_readConditions_31 X (d + 1) K E s3 ((0 : Int32))) (fun _ _ => False)) (fun _ _ => False)) (fun _ _ => False)) : cI X (d + 1) 103 [.ref 43, .int x0, .ref a2, .ref a3] s K E := by
  show bi_T _ _ _ _ _
  refine bi_Tr 1 (s' := (1, [(0, .ref 43), (1, .int x0), (2, .ref a2), (3, .ref a3)], [.ref a3], st_mm s)) rfl ?_
  refine bi_TcV (as := [.ref a3]) (bi_TcO rfl rfl rfl (st_kR0 ha3) rfl rfl) rfl ?_
  refine cV.mono h (fun s1 h => ?_) (fun _ _ h => h.elim)
  refine bi_Tr 4 (s' := (10, [(0, .ref 43), (1, .int x0), (2, .ref a2), (3, .ref a3)], [.ref a2, .ref a3, .ref 44], st_mm s1)) rfl ?_
  refine bi_Tgi (o := 0) rfl rfl rfl (st_kB0 ha2) ?_
  refine bi_Tr 1 (s' := (14, [(0, .ref 43), (1, .int x0), (2, .ref a2), (3, .ref a3)], [.ref a2, .int (st_g s1 a2 0), .ref a3, .ref 44], st_mm s1)) rfl ?_
  refine bi_Tgi (o := 0) rfl rfl rfl (st_kB0 ha2) ?_
  refine bi_TcV (as := [.ref 44, .ref a3, .int (st_g s1 a2 0), .int (st_g s1 a2 1)]) rfl rfl ?_
  refine cV.mono h (fun s2 h => ?_) (fun _ _ h => h.elim)
  refine bi_Tr 3 (s' := (25, [(0, .ref 43), (1, .int x0), (2, .ref a2), (3, .ref a3)], [.int x0, .ref 1], st_mm s2)) rfl ?_
  refine bi_TcV (as := [.ref 1, .int x0]) rfl rfl ?_
  refine cV.mono h (fun s3 h => ?_) (fun _ _ h => h.elim)
  refine bi_Tr 2 (s' := (31, [(4, .int (0 : Int32)), (0, .ref 43), (1, .int x0), (2, .ref a2), (3, .ref a3)], [], st_mm s3)) rfl ?_
  exact bi_Tww h rfl rfl ⟨rfl, rfl, trivial⟩
def at_X9_readText_53 (X : bi_X) (d : Nat) (K : Int32 → bi_St → Prop) (E : Nat → bi_St → Prop) (s : bi_St)  : Prop := bi_T X d 104 (53, [(0, .ref 43)], [], st_mm s) (st_RI K E)
def at_X9_readText_59 (X : bi_X) (d : Nat) (K : Int32 → bi_St → Prop) (E : Nat → bi_St → Prop) (s : bi_St) (y4 : Int32) (y5 : Int32) : Prop := bi_T X d 104 (59, [(0, .ref 43), (4, .int y4), (5, .int y5)], [], st_mm s) (st_RI K E)
def at_X9_readText_218 (X : bi_X) (d : Nat) (K : Int32 → bi_St → Prop) (E : Nat → bi_St → Prop) (s : bi_St) (y4 : Int32) : Prop := bi_T X d 104 (218, [(0, .ref 43), (4, .int y4)], [], st_mm s) (st_RI K E)
def at_X9_readText_148 (X : bi_X) (d : Nat) (K : Int32 → bi_St → Prop) (E : Nat → bi_St → Prop) (s : bi_St) (y5 : Int32) : Prop := bi_T X d 104 (148, [(0, .ref 43), (5, .int y5)], [], st_mm s) (st_RI K E)
def at_X9_readText_188 (X : bi_X) (d : Nat) (K : Int32 → bi_St → Prop) (E : Nat → bi_St → Prop) (s : bi_St) (y4 : Int32) (y5 : Int32) : Prop := bi_T X d 104 (188, [(0, .ref 43), (4, .int y4), (5, .int y5)], [], st_mm s) (st_RI K E)
def at_X9_readText_209 (X : bi_X) (d : Nat) (K : Int32 → bi_St → Prop) (E : Nat → bi_St → Prop) (s : bi_St) (y5 : Int32) : Prop := bi_T X d 104 (209, [(0, .ref 43), (5, .int y5)], [], st_mm s) (st_RI K E)
theorem go_X9_readText_53 {X : bi_X} {d : Nat} {K : Int32 → bi_St → Prop} {E : Nat → bi_St → Prop}  {s : bi_St}   (h : at_X9_readText_59 X (d + 1) K E s ((1 : Int32)) ((0 : Int32))) : at_X9_readText_53 X (d + 1) K E s  := by
  show bi_T _ _ _ _ _
  refine bi_Tr 4 (s' := (59, [(5, .int (0 : Int32)), (4, .int (1 : Int32)), (0, .ref 43)], [], st_mm s)) rfl ?_
  exact bi_Tww h rfl rfl ⟨rfl, rfl, rfl, trivial⟩
theorem go_X9_readText_59 {X : bi_X} {d : Nat} {K : Int32 → bi_St → Prop} {E : Nat → bi_St → Prop}  {s : bi_St} {y4 : Int32} {y5 : Int32}  (h : (((700 : Int32) ≤ y5) → at_X9_readText_218 X (d + 1) K E s (y4)) ∧ (¬ ((700 : Int32) ≤ y5) → ((y4 = 0) → at_X9_readText_218 X (d + 1) K E s (y4)) ∧ (¬ (y4 = 0) → (((st_g s 1 3) = 0) → at_X9_readText_218 X (d + 1) K E s (y4)) ∧ (¬ ((st_g s 1 3) = 0) → cI X d 96 [.ref 1, .ref 5007] s (fun (r6 : Int32) (s6 : bi_St) => ((r6 = 0) → cI X d 96 [.ref 1, .ref 5008] s6 (fun (r7 : Int32) (s7 : bi_St) => ((r7 = 0) → cI X d 96 [.ref 1, .ref 5009] s7 (fun (r8 : Int32) (s8 : bi_St) => ((¬ r8 = 0) → at_X9_readText_148 X (d + 1) K E s8 (y5)) ∧ (¬ (¬ r8 = 0) → cI X d 96 [.ref 1, .ref 5010] s8 (fun (r9 : Int32) (s9 : bi_St) => ((r9 = 0) → cI X d 96 [.ref 1, .ref 5011] s9 (fun (r10 : Int32) (s10 : bi_St) => ((r10 = 0) → cI X d 99 [.ref 1, .int (1 : Int32)] s10 (fun (r11 : Int32) (s11 : bi_St) => at_X9_readText_188 X (d + 1) K E s11 (r11) (y5)) (fun _ _ => False)) ∧ (¬ (r10 = 0) → cI X d 111 [.ref 43] s10 (fun (r12 : Int32) (s12 : bi_St) => at_X9_readText_188 X (d + 1) K E s12 (r12) (y5)) (fun _ _ => False))) (fun _ _ => False)) ∧ (¬ (r9 = 0) → at_X9_readText_148 X (d + 1) K E s9 (y5))) (fun _ _ => False))) (fun _ _ => False)) ∧ (¬ (r7 = 0) → cI X d 107 [.ref 43] s7 (fun (r13 : Int32) (s13 : bi_St) => at_X9_readText_188 X (d + 1) K E s13 (r13) (y5)) (fun _ _ => False))) (fun _ _ => False)) ∧ (¬ (r6 = 0) → cI X d 106 [.ref 43] s6 (fun (r14 : Int32) (s14 : bi_St) => at_X9_readText_188 X (d + 1) K E s14 (r14) (y5)) (fun _ _ => False))) (fun _ _ => False))))) : at_X9_readText_59 X (d + 1) K E s y4 y5 := by
  show bi_T _ _ _ _ _
  refine bi_Tr 3 (s' := ((if (700 : Int32) ≤ y5 then 218 else 67), [(0, .ref 43), (4, .int y4), (5, .int y5)], [], st_mm s)) rfl (bi_Tif (fun hc => ?_) (fun hc => ?_))
  · have h := h.1 hc
    exact bi_Tww h rfl rfl ⟨rfl, rfl, trivial⟩
  · have h := h.2 hc
    refine bi_Tr 2 (s' := ((if y4 = 0 then 218 else 72), [(0, .ref 43), (4, .int y4), (5, .int y5)], [], st_mm s)) rfl (bi_Tif (fun hc => ?_) (fun hc => ?_))
    · have h := h.1 hc
      exact bi_Tww h rfl rfl ⟨rfl, rfl, trivial⟩
    · have h := h.2 hc
      refine bi_Tr 4 (s' := ((if (st_g s 1 3) = 0 then 218 else 82), [(0, .ref 43), (4, .int y4), (5, .int y5)], [], st_mm s)) rfl (bi_Tif (fun hc => ?_) (fun hc => ?_))
      · have h := h.1 hc
        exact bi_Tww h rfl rfl ⟨rfl, rfl, trivial⟩
      · have h := h.2 hc
        refine bi_Tr 3 (s' := (88, [(0, .ref 43), (4, .int y4), (5, .int y5)], [.ref 5007, .ref 1], st_mm s)) rfl ?_
        refine bi_TcI (as := [.ref 1, .ref 5007]) rfl rfl ?_
        refine cI.mono h (fun r6 s6 h => ?_) (fun _ _ h => h.elim)
        refine bi_Tr 1 (s' := ((if r6 = 0 then 103 else 94), [(0, .ref 43), (4, .int y4), (5, .int y5)], [], st_mm s6)) rfl (bi_Tif (fun hc => ?_) (fun hc => ?_))
        · have h := h.1 hc
          refine bi_Tr 3 (s' := (109, [(0, .ref 43), (4, .int y4), (5, .int y5)], [.ref 5008, .ref 1], st_mm s6)) rfl ?_
          refine bi_TcI (as := [.ref 1, .ref 5008]) rfl rfl ?_
          refine cI.mono h (fun r7 s7 h => ?_) (fun _ _ h => h.elim)
          refine bi_Tr 1 (s' := ((if r7 = 0 then 124 else 115), [(0, .ref 43), (4, .int y4), (5, .int y5)], [], st_mm s7)) rfl (bi_Tif (fun hc => ?_) (fun hc => ?_))
          · have h := h.1 hc
            refine bi_Tr 3 (s' := (130, [(0, .ref 43), (4, .int y4), (5, .int y5)], [.ref 5009, .ref 1], st_mm s7)) rfl ?_
            refine bi_TcI (as := [.ref 1, .ref 5009]) rfl rfl ?_
            refine cI.mono h (fun r8 s8 h => ?_) (fun _ _ h => h.elim)
            refine bi_Tr 1 (s' := ((if ¬ r8 = 0 then 148 else 136), [(0, .ref 43), (4, .int y4), (5, .int y5)], [], st_mm s8)) rfl (bi_Tif (fun hc => ?_) (fun hc => ?_))
            · have h := h.1 hc
              exact bi_Tww h rfl rfl ⟨rfl, rfl, trivial⟩
            · have h := h.2 hc
              refine bi_Tr 3 (s' := (142, [(0, .ref 43), (4, .int y4), (5, .int y5)], [.ref 5010, .ref 1], st_mm s8)) rfl ?_
              refine bi_TcI (as := [.ref 1, .ref 5010]) rfl rfl ?_
              refine cI.mono h (fun r9 s9 h => ?_) (fun _ _ h => h.elim)
              refine bi_Tr 1 (s' := ((if r9 = 0 then 157 else 148), [(0, .ref 43), (4, .int y4), (5, .int y5)], [], st_mm s9)) rfl (bi_Tif (fun hc => ?_) (fun hc => ?_))
              · have h := h.1 hc
                refine bi_Tr 3 (s' := (163, [(0, .ref 43), (4, .int y4), (5, .int y5)], [.ref 5011, .ref 1], st_mm s9)) rfl ?_
                refine bi_TcI (as := [.ref 1, .ref 5011]) rfl rfl ?_
                refine cI.mono h (fun r10 s10 h => ?_) (fun _ _ h => h.elim)
                refine bi_Tr 1 (s' := ((if r10 = 0 then 178 else 169), [(0, .ref 43), (4, .int y4), (5, .int y5)], [], st_mm s10)) rfl (bi_Tif (fun hc => ?_) (fun hc => ?_))
                · have h := h.1 hc
                  refine bi_Tr 3 (s' := (183, [(0, .ref 43), (4, .int y4), (5, .int y5)], [.int (1 : Int32), .ref 1], st_mm s10)) rfl ?_
                  refine bi_TcI (as := [.ref 1, .int (1 : Int32)]) rfl rfl ?_
                  refine cI.mono h (fun r11 s11 h => ?_) (fun _ _ h => h.elim)
                  refine bi_Tr 1 (s' := (188, [(4, .int r11), (0, .ref 43), (5, .int y5)], [], st_mm s11)) rfl ?_
                  exact bi_Tww h rfl rfl ⟨rfl, rfl, rfl, trivial⟩
                · have h := h.2 hc
                  refine bi_Tr 1 (s' := (170, [(0, .ref 43), (4, .int y4), (5, .int y5)], [.ref 43], st_mm s10)) rfl ?_
                  refine bi_TcI (as := [.ref 43]) rfl rfl ?_
                  refine cI.mono h (fun r12 s12 h => ?_) (fun _ _ h => h.elim)
                  refine bi_Tr 2 (s' := (188, [(4, .int r12), (0, .ref 43), (5, .int y5)], [], st_mm s12)) rfl ?_
                  exact bi_Tww h rfl rfl ⟨rfl, rfl, rfl, trivial⟩
              · have h := h.2 hc
                exact bi_Tww h rfl rfl ⟨rfl, rfl, trivial⟩
          · have h := h.2 hc
            refine bi_Tr 1 (s' := (116, [(0, .ref 43), (4, .int y4), (5, .int y5)], [.ref 43], st_mm s7)) rfl ?_
            refine bi_TcI (as := [.ref 43]) rfl rfl ?_
            refine cI.mono h (fun r13 s13 h => ?_) (fun _ _ h => h.elim)
            refine bi_Tr 2 (s' := (188, [(4, .int r13), (0, .ref 43), (5, .int y5)], [], st_mm s13)) rfl ?_
            exact bi_Tww h rfl rfl ⟨rfl, rfl, rfl, trivial⟩
        · have h := h.2 hc
          refine bi_Tr 1 (s' := (95, [(0, .ref 43), (4, .int y4), (5, .int y5)], [.ref 43], st_mm s6)) rfl ?_
          refine bi_TcI (as := [.ref 43]) rfl rfl ?_
          refine cI.mono h (fun r14 s14 h => ?_) (fun _ _ h => h.elim)
          refine bi_Tr 2 (s' := (188, [(4, .int r14), (0, .ref 43), (5, .int y5)], [], st_mm s14)) rfl ?_
          exact bi_Tww h rfl rfl ⟨rfl, rfl, rfl, trivial⟩
theorem go_X9_readText_218 {X : bi_X} {d : Nat} {K : Int32 → bi_St → Prop} {E : Nat → bi_St → Prop}  {s : bi_St} {y4 : Int32}  (h : st_isS (st_gp s 5) ∧ (st_isB (st_gp s 4) ∧ (bi_bool y4 = true ∧ (K y4 (st_p s (st_gp s 5) 3 (((1 : Int32) <<< ((st_g s (st_gp s 4) 2) &&& 31)) - (1 : Int32))))))) : at_X9_readText_218 X (d + 1) K E s y4 := by
  show bi_T _ _ _ _ _
  obtain ⟨h0q0_219, h⟩ := h
  obtain ⟨h22q0_224, h⟩ := h
  refine bi_Tr 5 (s' := (227, [(0, .ref 43), (4, .int y4)], [.ref (st_gp s 4), .int (1 : Int32), .ref (st_gp s 5)], st_mm s)) rfl ?_
  refine bi_Tgi (o := 0) rfl rfl rfl (st_kB0 h22q0_224) ?_
  refine bi_Tr 3 (s' := (233, [(0, .ref 43), (4, .int y4)], [.int (((1 : Int32) <<< ((st_g s (st_gp s 4) 2) &&& 31)) - (1 : Int32)), .ref (st_gp s 5)], st_mm s)) rfl ?_
  refine bi_Tpi rfl rfl rfl rfl (st_kS0 h0q0_219) ?_
  refine bi_Tr 1 (s' := (238, [(0, .ref 43), (4, .int y4)], [.int y4], st_mm (st_p s (st_gp s 5) 3 (((1 : Int32) <<< ((st_g s (st_gp s 4) 2) &&& 31)) - (1 : Int32))))) rfl ?_
  obtain ⟨hi, h⟩ := h
  exact bi_Tv rfl hi (Or.inl ⟨_, _, rfl, h⟩)
theorem go_X9_readText_148 {X : bi_X} {d : Nat} {K : Int32 → bi_St → Prop} {E : Nat → bi_St → Prop}  {s : bi_St} {y5 : Int32}  (h : cI X d 108 [.ref 43] s (fun (r15 : Int32) (s15 : bi_St) => at_X9_readText_188 X (d + 1) K E s15 (r15) (y5)) (fun _ _ => False)) : at_X9_readText_148 X (d + 1) K E s y5 := by
  show bi_T _ _ _ _ _
  refine bi_Tr 1 (s' := (149, [(0, .ref 43), (5, .int y5)], [.ref 43], st_mm s)) rfl ?_
  refine bi_TcI (as := [.ref 43]) rfl rfl ?_
  refine cI.mono h (fun r15 s15 h => ?_) (fun _ _ h => h.elim)
  refine bi_Tr 2 (s' := (188, [(4, .int r15), (0, .ref 43), (5, .int y5)], [], st_mm s15)) rfl ?_
  exact bi_Tww h rfl rfl ⟨rfl, rfl, rfl, trivial⟩
theorem go_X9_readText_188 {X : bi_X} {d : Nat} {K : Int32 → bi_St → Prop} {E : Nat → bi_St → Prop}  {s : bi_St} {y4 : Int32} {y5 : Int32}  (h : ((y4 = 0) → at_X9_readText_209 X (d + 1) K E s (y5)) ∧ (¬ (y4 = 0) → cI X d 100 [.ref 1, .int (59 : Int32)] s (fun (r16 : Int32) (s16 : bi_St) => ((r16 = 0) → at_X9_readText_209 X (d + 1) K E s16 (y5)) ∧ (¬ (r16 = 0) → at_X9_readText_59 X (d + 1) K E s16 ((1 : Int32)) ((y5 + (1 : Int32))))) (fun _ _ => False))) : at_X9_readText_188 X (d + 1) K E s y4 y5 := by
  show bi_T _ _ _ _ _
  refine bi_Tr 2 (s' := ((if y4 = 0 then 209 else 193), [(0, .ref 43), (4, .int y4), (5, .int y5)], [], st_mm s)) rfl (bi_Tif (fun hc => ?_) (fun hc => ?_))
  · have h := h.1 hc
    exact bi_Tww h rfl rfl ⟨rfl, rfl, trivial⟩
  · have h := h.2 hc
    refine bi_Tr 3 (s' := (199, [(0, .ref 43), (4, .int y4), (5, .int y5)], [.int (59 : Int32), .ref 1], st_mm s)) rfl ?_
    refine bi_TcI (as := [.ref 1, .int (59 : Int32)]) rfl rfl ?_
    refine cI.mono h (fun r16 s16 h => ?_) (fun _ _ h => h.elim)
    refine bi_Tr 1 (s' := ((if r16 = 0 then 209 else 205), [(0, .ref 43), (4, .int y4), (5, .int y5)], [], st_mm s16)) rfl (bi_Tif (fun hc => ?_) (fun hc => ?_))
    · have h := h.1 hc
      exact bi_Tww h rfl rfl ⟨rfl, rfl, trivial⟩
    · have h := h.2 hc
      refine bi_Tr 5 (s' := (59, [(5, .int (y5 + (1 : Int32))), (4, .int (1 : Int32)), (0, .ref 43)], [], st_mm s16)) rfl ?_
      exact bi_Tww h rfl rfl ⟨rfl, rfl, rfl, trivial⟩
theorem go_X9_readText_209 {X : bi_X} {d : Nat} {K : Int32 → bi_St → Prop} {E : Nat → bi_St → Prop}  {s : bi_St} {y5 : Int32}  (h : at_X9_readText_59 X (d + 1) K E s ((0 : Int32)) ((y5 + (1 : Int32)))) : at_X9_readText_209 X (d + 1) K E s y5 := by
  show bi_T _ _ _ _ _
  refine bi_Tr 4 (s' := (59, [(5, .int (y5 + (1 : Int32))), (4, .int (0 : Int32)), (0, .ref 43)], [], st_mm s)) rfl ?_
  exact bi_Tww h rfl rfl ⟨rfl, rfl, rfl, trivial⟩
/-- PolicyRows$TextReader.readText(ILPolicyRows$Book;LPolicyRows$State;)Z -/
theorem en_X9_readText {X : bi_X} {d : Nat} {K : Int32 → bi_St → Prop} {E : Nat → bi_St → Prop} {s : bi_St} {x0 : Int32} {a2 : Nat} {a3 : Nat} (ha2 : st_isB a2) (ha3 : st_isS a3) (h : st_isB (st_gp (st_pp (st_pp s 4 a2) 5 a3) 4) ∧ (cV X d 1 [.ref (st_gp (st_pp (st_pp s 4 a2) 5 a3) 4)] (st_pp (st_pp s 4 a2) 5 a3) (fun (s1 : bi_St) => st_isS (st_gp s1 5) ∧ (cV X d 71 [.ref (st_gp s1 5)] s1 (fun (s2 : bi_St) => cV X d 93 [.ref 1, .int x0] s2 (fun (s3 : bi_St) => cI X d 96 [.ref 1, .ref 5006] s3 (fun (r4 : Int32) (s4 : bi_St) => ((r4 = 0) → at_X9_readText_53 X (d + 1) K E s4) ∧ (¬ (r4 = 0) → cI X d 105 [.ref 43] s4 (fun (r5 : Int32) (s5 : bi_St) => ((¬ r5 = 0) → at_X9_readText_53 X (d + 1) K E s5) ∧ (¬ (¬ r5 = 0) → K (0 : Int32) s5)) (fun _ _ => False))) (fun _ _ => False)) (fun _ _ => False)) (fun _ _ => False))) (fun _ _ => False))) : cI X (d + 1) 104 [.ref 43, .int x0, .ref a2, .ref a3] s K E := by
  show bi_T _ _ _ _ _
  refine bi_Tr 2 (s' := (2, [(0, .ref 43), (1, .int x0), (2, .ref a2), (3, .ref a3)], [.ref a2, .ref 43], st_mm s)) rfl ?_
  refine bi_Tpr rfl rfl rfl rfl rfl rfl ?_
  refine bi_Tr 2 (s' := (7, [(0, .ref 43), (1, .int x0), (2, .ref a2), (3, .ref a3)], [.ref a3, .ref 43], st_mm (st_pp s 4 a2))) rfl ?_
  refine bi_Tpr rfl rfl rfl rfl rfl rfl ?_
  obtain ⟨h0q0_11, h⟩ := h
  refine bi_Tr 2 (s' := (14, [(0, .ref 43), (1, .int x0), (2, .ref a2), (3, .ref a3)], [.ref (st_gp (st_pp (st_pp s 4 a2) 5 a3) 4)], st_mm (st_pp (st_pp s 4 a2) 5 a3))) rfl ?_
  refine bi_TcV (as := [.ref (st_gp (st_pp (st_pp s 4 a2) 5 a3) 4)]) (bi_TcO rfl rfl rfl (st_kB0 h0q0_11) rfl rfl) rfl ?_
  refine cV.mono h (fun s1 h => ?_) (fun _ _ h => h.elim)
  obtain ⟨h0q0_18, h⟩ := h
  refine bi_Tr 2 (s' := (21, [(0, .ref 43), (1, .int x0), (2, .ref a2), (3, .ref a3)], [.ref (st_gp s1 5)], st_mm s1)) rfl ?_
  refine bi_TcV (as := [.ref (st_gp s1 5)]) (bi_TcO rfl rfl rfl (st_kS0 h0q0_18) rfl rfl) rfl ?_
  refine cV.mono h (fun s2 h => ?_) (fun _ _ h => h.elim)
  refine bi_Tr 3 (s' := (29, [(0, .ref 43), (1, .int x0), (2, .ref a2), (3, .ref a3)], [.int x0, .ref 1], st_mm s2)) rfl ?_
  refine bi_TcV (as := [.ref 1, .int x0]) rfl rfl ?_
  refine cV.mono h (fun s3 h => ?_) (fun _ _ h => h.elim)
  refine bi_Tr 3 (s' := (38, [(0, .ref 43), (1, .int x0), (2, .ref a2), (3, .ref a3)], [.ref 5006, .ref 1], st_mm s3)) rfl ?_
  refine bi_TcI (as := [.ref 1, .ref 5006]) rfl rfl ?_
  refine cI.mono h (fun r4 s4 h => ?_) (fun _ _ h => h.elim)
  refine bi_Tr 1 (s' := ((if r4 = 0 then 53 else 44), [(0, .ref 43), (1, .int x0), (2, .ref a2), (3, .ref a3)], [], st_mm s4)) rfl (bi_Tif (fun hc => ?_) (fun hc => ?_))
  · have h := h.1 hc
    exact bi_Tww h rfl rfl ⟨rfl, trivial⟩
  · have h := h.2 hc
    refine bi_Tr 1 (s' := (45, [(0, .ref 43), (1, .int x0), (2, .ref a2), (3, .ref a3)], [.ref 43], st_mm s4)) rfl ?_
    refine bi_TcI (as := [.ref 43]) rfl rfl ?_
    refine cI.mono h (fun r5 s5 h => ?_) (fun _ _ h => h.elim)
    refine bi_Tr 1 (s' := ((if ¬ r5 = 0 then 53 else 51), [(0, .ref 43), (1, .int x0), (2, .ref a2), (3, .ref a3)], [], st_mm s5)) rfl (bi_Tif (fun hc => ?_) (fun hc => ?_))
    · have h := h.1 hc
      exact bi_Tww h rfl rfl ⟨rfl, trivial⟩
    · have h := h.2 hc
      refine bi_Tr 1 (s' := (52, [(0, .ref 43), (1, .int x0), (2, .ref a2), (3, .ref a3)], [.int (0 : Int32)], st_mm s5)) rfl ?_
      exact bi_Tv rfl rfl (Or.inl ⟨_, _, rfl, h⟩)
/-- PolicyRows$TextReader.readColumns()Z -/
theorem en_X9_readColumns {X : bi_X} {d : Nat} {K : Int32 → bi_St → Prop} {E : Nat → bi_St → Prop} {s : bi_St}   (h : cV X d 94 [.ref 1] s (fun (s1 : bi_St) => cI X d 101 [.ref 1, .int (4 : Int32), .int (2 : Int32)] s1 (fun (r2 : Int32) (s2 : bi_St) => ((¬ r2 = 0) → (((1 : Int32) ≤ (st_g s2 1 6)) → st_isB (st_gp s2 4) ∧ (cV X d 94 [.ref 1] (st_p s2 (st_gp s2 4) 0 (st_g s2 1 6)) (fun (s3 : bi_St) => cI X d 100 [.ref 1, .int (59 : Int32)] s3 (fun (r4 : Int32) (s4 : bi_St) => bi_bool r4 = true ∧ (K r4 s4)) (fun _ _ => False)) (fun _ _ => False))) ∧ (¬ ((1 : Int32) ≤ (st_g s2 1 6)) → cI X d 99 [.ref 1, .int (2 : Int32)] s2 (fun (r5 : Int32) (s5 : bi_St) => bi_bool r5 = true ∧ (K r5 s5)) (fun _ _ => False))) ∧ (¬ (¬ r2 = 0) → K (0 : Int32) s2)) (fun _ _ => False)) (fun _ _ => False)) : cI X (d + 1) 105 [.ref 43] s K E := by
  show bi_T _ _ _ _ _
  refine bi_Tr 2 (s' := (4, [(0, .ref 43)], [.ref 1], st_mm s)) rfl ?_
  refine bi_TcV (as := [.ref 1]) rfl rfl ?_
  refine cV.mono h (fun s1 h => ?_) (fun _ _ h => h.elim)
  refine bi_Tr 4 (s' := (13, [(0, .ref 43)], [.int (2 : Int32), .int (4 : Int32), .ref 1], st_mm s1)) rfl ?_
  refine bi_TcI (as := [.ref 1, .int (4 : Int32), .int (2 : Int32)]) rfl rfl ?_
  refine cI.mono h (fun r2 s2 h => ?_) (fun _ _ h => h.elim)
  refine bi_Tr 1 (s' := ((if ¬ r2 = 0 then 21 else 19), [(0, .ref 43)], [], st_mm s2)) rfl (bi_Tif (fun hc => ?_) (fun hc => ?_))
  · have h := h.1 hc
    refine bi_Tr 5 (s' := ((if (1 : Int32) ≤ (st_g s2 1 6) then 41 else 32), [(0, .ref 43)], [], st_mm s2)) rfl (bi_Tif (fun hc => ?_) (fun hc => ?_))
    · have h := h.1 hc
      obtain ⟨h0q2_42, h⟩ := h
      refine bi_Tr 5 (s' := (52, [(0, .ref 43)], [.int (st_g s2 1 6), .ref (st_gp s2 4)], st_mm s2)) rfl ?_
      refine bi_Tpi rfl rfl rfl rfl (st_kB0 h0q2_42) ?_
      refine bi_Tr 2 (s' := (59, [(0, .ref 43)], [.ref 1], st_mm (st_p s2 (st_gp s2 4) 0 (st_g s2 1 6)))) rfl ?_
      refine bi_TcV (as := [.ref 1]) rfl rfl ?_
      refine cV.mono h (fun s3 h => ?_) (fun _ _ h => h.elim)
      refine bi_Tr 3 (s' := (68, [(0, .ref 43)], [.int (59 : Int32), .ref 1], st_mm s3)) rfl ?_
      refine bi_TcI (as := [.ref 1, .int (59 : Int32)]) rfl rfl ?_
      refine cI.mono h (fun r4 s4 h => ?_) (fun _ _ h => h.elim)
      obtain ⟨hi, h⟩ := h
      exact bi_Tv rfl hi (Or.inl ⟨_, _, rfl, h⟩)
    · have h := h.2 hc
      refine bi_Tr 3 (s' := (37, [(0, .ref 43)], [.int (2 : Int32), .ref 1], st_mm s2)) rfl ?_
      refine bi_TcI (as := [.ref 1, .int (2 : Int32)]) rfl rfl ?_
      refine cI.mono h (fun r5 s5 h => ?_) (fun _ _ h => h.elim)
      obtain ⟨hi, h⟩ := h
      exact bi_Tv rfl hi (Or.inl ⟨_, _, rfl, h⟩)
  · have h := h.2 hc
    refine bi_Tr 1 (s' := (20, [(0, .ref 43)], [.int (0 : Int32)], st_mm s2)) rfl ?_
    exact bi_Tv rfl rfl (Or.inl ⟨_, _, rfl, h⟩)
def at_X9_readRole_32 (X : bi_X) (d : Nat) (K : Int32 → bi_St → Prop) (E : Nat → bi_St → Prop) (s : bi_St) (y1 : Int32) (y2 : Int32) : Prop := bi_T X d 106 (32, [(0, .ref 43), (1, .int y1), (2, .int y2)], [], st_mm s) (st_RI K E)
theorem go_X9_readRole_32 {X : bi_X} {d : Nat} {K : Int32 → bi_St → Prop} {E : Nat → bi_St → Prop}  {s : bi_St} {y1 : Int32} {y2 : Int32}  (h : (((700 : Int32) ≤ y2) → st_isB (st_gp s 4) ∧ (K (1 : Int32) (st_p s (st_gp s 4) 1 ((st_g s (st_gp s 4) 1) + (1 : Int32))))) ∧ (¬ ((700 : Int32) ≤ y2) → ((¬ (st_g s 1 3) = (2 : Int32)) → st_isB (st_gp s 4) ∧ (K (1 : Int32) (st_p s (st_gp s 4) 1 ((st_g s (st_gp s 4) 1) + (1 : Int32))))) ∧ (¬ (¬ (st_g s 1 3) = (2 : Int32)) → cI X d 101 [.ref 1, .int (y1 - (1 : Int32)), .int (3 : Int32)] s (fun (r3 : Int32) (s3 : bi_St) => ((¬ r3 = 0) → st_isS (st_gp s3 5) ∧ (bi_in y1 6 = true ∧ (bi_in y1 6 = true ∧ (cV X d 94 [.ref 1] (st_p s3 ((st_gp s3 5) + 2) (y1).toNatClampNeg ((st_g s3 ((st_gp s3 5) + 2) (y1).toNatClampNeg) ||| ((1 : Int32) <<< ((st_g s3 1 6) &&& 31)))) (fun (s4 : bi_St) => at_X9_readRole_32 X (d + 1) K E s4 (y1) ((y2 + (1 : Int32)))) (fun _ _ => False))))) ∧ (¬ (¬ r3 = 0) → K (0 : Int32) s3)) (fun _ _ => False)))) : at_X9_readRole_32 X (d + 1) K E s y1 y2 := by
  show bi_T _ _ _ _ _
  refine bi_Tr 3 (s' := ((if (700 : Int32) ≤ y2 then 100 else 39), [(0, .ref 43), (1, .int y1), (2, .int y2)], [], st_mm s)) rfl (bi_Tif (fun hc => ?_) (fun hc => ?_))
  · have h := h.1 hc
    obtain ⟨h0q1_101, h⟩ := h
    refine bi_Tr 3 (s' := (105, [(0, .ref 43), (1, .int y1), (2, .int y2)], [.ref (st_gp s 4), .ref (st_gp s 4)], st_mm s)) rfl ?_
    refine bi_Tgi (o := 0) rfl rfl rfl (st_kB0 h0q1_101) ?_
    refine bi_Tr 2 (s' := (110, [(0, .ref 43), (1, .int y1), (2, .int y2)], [.int ((st_g s (st_gp s 4) 1) + (1 : Int32)), .ref (st_gp s 4)], st_mm s)) rfl ?_
    refine bi_Tpi rfl rfl rfl rfl (st_kB0 h0q1_101) ?_
    refine bi_Tr 1 (s' := (114, [(0, .ref 43), (1, .int y1), (2, .int y2)], [.int (1 : Int32)], st_mm (st_p s (st_gp s 4) 1 ((st_g s (st_gp s 4) 1) + (1 : Int32))))) rfl ?_
    exact bi_Tv rfl rfl (Or.inl ⟨_, _, rfl, h⟩)
  · have h := h.2 hc
    refine bi_Tr 5 (s' := ((if ¬ (st_g s 1 3) = (2 : Int32) then 100 else 50), [(0, .ref 43), (1, .int y1), (2, .int y2)], [], st_mm s)) rfl (bi_Tif (fun hc => ?_) (fun hc => ?_))
    · have h := h.1 hc
      obtain ⟨h0q2_101, h⟩ := h
      refine bi_Tr 3 (s' := (105, [(0, .ref 43), (1, .int y1), (2, .int y2)], [.ref (st_gp s 4), .ref (st_gp s 4)], st_mm s)) rfl ?_
      refine bi_Tgi (o := 0) rfl rfl rfl (st_kB0 h0q2_101) ?_
      refine bi_Tr 2 (s' := (110, [(0, .ref 43), (1, .int y1), (2, .int y2)], [.int ((st_g s (st_gp s 4) 1) + (1 : Int32)), .ref (st_gp s 4)], st_mm s)) rfl ?_
      refine bi_Tpi rfl rfl rfl rfl (st_kB0 h0q2_101) ?_
      refine bi_Tr 1 (s' := (114, [(0, .ref 43), (1, .int y1), (2, .int y2)], [.int (1 : Int32)], st_mm (st_p s (st_gp s 4) 1 ((st_g s (st_gp s 4) 1) + (1 : Int32))))) rfl ?_
      exact bi_Tv rfl rfl (Or.inl ⟨_, _, rfl, h⟩)
    · have h := h.2 hc
      refine bi_Tr 6 (s' := (58, [(0, .ref 43), (1, .int y1), (2, .int y2)], [.int (3 : Int32), .int (y1 - (1 : Int32)), .ref 1], st_mm s)) rfl ?_
      refine bi_TcI (as := [.ref 1, .int (y1 - (1 : Int32)), .int (3 : Int32)]) rfl rfl ?_
      refine cI.mono h (fun r3 s3 h => ?_) (fun _ _ h => h.elim)
      refine bi_Tr 1 (s' := ((if ¬ r3 = 0 then 66 else 64), [(0, .ref 43), (1, .int y1), (2, .int y2)], [], st_mm s3)) rfl (bi_Tif (fun hc => ?_) (fun hc => ?_))
      · have h := h.1 hc
        obtain ⟨h0q3_67, h⟩ := h
        refine bi_Tr 2 (s' := (70, [(0, .ref 43), (1, .int y1), (2, .int y2)], [.ref (st_gp s3 5)], st_mm s3)) rfl ?_
        refine bi_Tgr rfl rfl rfl (st_kS0 h0q3_67) (st_pS2 h0q3_67) ?_
        refine bi_Tr 2 (s' := (75, [(0, .ref 43), (1, .int y1), (2, .int y2)], [.int y1, .ref ((st_gp s3 5) + 2), .int y1, .ref ((st_gp s3 5) + 2)], st_mm s3)) rfl ?_
        obtain ⟨hi, h⟩ := h
        refine bi_Tial rfl (by have := h0q3_67; simp only [st_isS] at this; rcases this with h | h | h | h <;> rw [h] <;> rfl) (st_kS2 h0q3_67) hi ?_
        refine bi_Tr 6 (s' := (86, [(0, .ref 43), (1, .int y1), (2, .int y2)], [.int ((st_g s3 ((st_gp s3 5) + 2) (y1).toNatClampNeg) ||| ((1 : Int32) <<< ((st_g s3 1 6) &&& 31))), .int y1, .ref ((st_gp s3 5) + 2)], st_mm s3)) rfl ?_
        obtain ⟨hi, h⟩ := h
        refine bi_Tias rfl (st_kS2 h0q3_67) hi ?_
        refine bi_Tr 2 (s' := (91, [(0, .ref 43), (1, .int y1), (2, .int y2)], [.ref 1], st_mm (st_p s3 ((st_gp s3 5) + 2) (y1).toNatClampNeg ((st_g s3 ((st_gp s3 5) + 2) (y1).toNatClampNeg) ||| ((1 : Int32) <<< ((st_g s3 1 6) &&& 31)))))) rfl ?_
        refine bi_TcV (as := [.ref 1]) rfl rfl ?_
        refine cV.mono h (fun s4 h => ?_) (fun _ _ h => h.elim)
        refine bi_Tr 2 (s' := (32, [(2, .int (y2 + (1 : Int32))), (0, .ref 43), (1, .int y1)], [], st_mm s4)) rfl ?_
        exact bi_Tww h rfl rfl ⟨rfl, rfl, rfl, trivial⟩
      · have h := h.2 hc
        refine bi_Tr 1 (s' := (65, [(0, .ref 43), (1, .int y1), (2, .int y2)], [.int (0 : Int32)], st_mm s3)) rfl ?_
        exact bi_Tv rfl rfl (Or.inl ⟨_, _, rfl, h⟩)
/-- PolicyRows$TextReader.readRole()Z -/
theorem en_X9_readRole {X : bi_X} {d : Nat} {K : Int32 → bi_St → Prop} {E : Nat → bi_St → Prop} {s : bi_St}   (h : st_isB (st_gp s 4) ∧ ((((st_g s (st_gp s 4) 1) < (6 : Int32)) → cV X d 94 [.ref 1] s (fun (s1 : bi_St) => at_X9_readRole_32 X (d + 1) K E s1 ((st_g s (st_gp s 4) 1)) ((0 : Int32))) (fun _ _ => False)) ∧ (¬ ((st_g s (st_gp s 4) 1) < (6 : Int32)) → cI X d 99 [.ref 1, .int (2 : Int32)] s (fun (r2 : Int32) (s2 : bi_St) => bi_bool r2 = true ∧ (K r2 s2)) (fun _ _ => False)))) : cI X (d + 1) 106 [.ref 43] s K E := by
  show bi_T _ _ _ _ _
  obtain ⟨h0q0_1, h⟩ := h
  refine bi_Tr 2 (s' := (4, [(0, .ref 43)], [.ref (st_gp s 4)], st_mm s)) rfl ?_
  refine bi_Tgi (o := 0) rfl rfl rfl (st_kB0 h0q0_1) ?_
  refine bi_Tr 4 (s' := ((if (st_g s (st_gp s 4) 1) < (6 : Int32) then 23 else 14), [(1, .int (st_g s (st_gp s 4) 1)), (0, .ref 43)], [], st_mm s)) rfl (bi_Tif (fun hc => ?_) (fun hc => ?_))
  · have h := h.1 hc
    refine bi_Tr 2 (s' := (27, [(1, .int (st_g s (st_gp s 4) 1)), (0, .ref 43)], [.ref 1], st_mm s)) rfl ?_
    refine bi_TcV (as := [.ref 1]) rfl rfl ?_
    refine cV.mono h (fun s1 h => ?_) (fun _ _ h => h.elim)
    refine bi_Tr 2 (s' := (32, [(2, .int (0 : Int32)), (1, .int (st_g s (st_gp s 4) 1)), (0, .ref 43)], [], st_mm s1)) rfl ?_
    exact bi_Tww h rfl rfl ⟨rfl, rfl, rfl, trivial⟩
  · have h := h.2 hc
    refine bi_Tr 3 (s' := (19, [(1, .int (st_g s (st_gp s 4) 1)), (0, .ref 43)], [.int (2 : Int32), .ref 1], st_mm s)) rfl ?_
    refine bi_TcI (as := [.ref 1, .int (2 : Int32)]) rfl rfl ?_
    refine cI.mono h (fun r2 s2 h => ?_) (fun _ _ h => h.elim)
    obtain ⟨hi, h⟩ := h
    exact bi_Tv rfl hi (Or.inl ⟨_, _, rfl, h⟩)
def at_X9_readRow_32 (X : bi_X) (d : Nat) (K : Int32 → bi_St → Prop) (E : Nat → bi_St → Prop) (s : bi_St) (y1 : Int32) (y2 : Int32) : Prop := bi_T X d 107 (32, [(0, .ref 43), (1, .int y1), (2, .int y2)], [], st_mm s) (st_RI K E)
theorem go_X9_readRow_32 {X : bi_X} {d : Nat} {K : Int32 → bi_St → Prop} {E : Nat → bi_St → Prop}  {s : bi_St} {y1 : Int32} {y2 : Int32}  (h : st_isB (st_gp s 4) ∧ ((((st_g s (st_gp s 4) 0) ≤ y2) → st_isS (st_gp s 5) ∧ (K (1 : Int32) (st_p s (st_gp s 5) 0 ((st_g s (st_gp s 5) 0) + (1 : Int32))))) ∧ (¬ ((st_g s (st_gp s 4) 0) ≤ y2) → cI X d 97 [.ref 1, .int (45 : Int32)] s (fun (r3 : Int32) (s3 : bi_St) => ((r3 = 0) → cI X d 101 [.ref 1, .int (99 : Int32), .int (2 : Int32)] s3 (fun (r4 : Int32) (s4 : bi_St) => ((¬ r4 = 0) → st_isS (st_gp s4 5) ∧ (((r3 = 0) → cV X d 75 [.ref (st_gp s4 5), .int y1, .int y2, .int (st_g s4 1 6)] s4 (fun (s5 : bi_St) => cV X d 94 [.ref 1] s5 (fun (s6 : bi_St) => at_X9_readRow_32 X (d + 1) K E s6 (y1) ((y2 + (1 : Int32)))) (fun _ _ => False)) (fun _ _ => False)) ∧ (¬ (r3 = 0) → cV X d 75 [.ref (st_gp s4 5), .int y1, .int y2, .int (-(st_g s4 1 6))] s4 (fun (s7 : bi_St) => cV X d 94 [.ref 1] s7 (fun (s8 : bi_St) => at_X9_readRow_32 X (d + 1) K E s8 (y1) ((y2 + (1 : Int32)))) (fun _ _ => False)) (fun _ _ => False)))) ∧ (¬ (¬ r4 = 0) → K (0 : Int32) s4)) (fun _ _ => False)) ∧ (¬ (r3 = 0) → cV X d 94 [.ref 1] s3 (fun (s9 : bi_St) => cI X d 101 [.ref 1, .int (99 : Int32), .int (2 : Int32)] s9 (fun (r10 : Int32) (s10 : bi_St) => ((¬ r10 = 0) → st_isS (st_gp s10 5) ∧ (((r3 = 0) → cV X d 75 [.ref (st_gp s10 5), .int y1, .int y2, .int (st_g s10 1 6)] s10 (fun (s11 : bi_St) => cV X d 94 [.ref 1] s11 (fun (s12 : bi_St) => at_X9_readRow_32 X (d + 1) K E s12 (y1) ((y2 + (1 : Int32)))) (fun _ _ => False)) (fun _ _ => False)) ∧ (¬ (r3 = 0) → cV X d 75 [.ref (st_gp s10 5), .int y1, .int y2, .int (-(st_g s10 1 6))] s10 (fun (s13 : bi_St) => cV X d 94 [.ref 1] s13 (fun (s14 : bi_St) => at_X9_readRow_32 X (d + 1) K E s14 (y1) ((y2 + (1 : Int32)))) (fun _ _ => False)) (fun _ _ => False)))) ∧ (¬ (¬ r10 = 0) → K (0 : Int32) s10)) (fun _ _ => False)) (fun _ _ => False))) (fun _ _ => False)))) : at_X9_readRow_32 X (d + 1) K E s y1 y2 := by
  show bi_T _ _ _ _ _
  obtain ⟨h0q0_34, h⟩ := h
  refine bi_Tr 3 (s' := (37, [(0, .ref 43), (1, .int y1), (2, .int y2)], [.ref (st_gp s 4), .int y2], st_mm s)) rfl ?_
  refine bi_Tgi (o := 0) rfl rfl rfl (st_kB0 h0q0_34) ?_
  refine bi_Tr 1 (s' := ((if (st_g s (st_gp s 4) 0) ≤ y2 then 123 else 43), [(0, .ref 43), (1, .int y1), (2, .int y2)], [], st_mm s)) rfl (bi_Tif (fun hc => ?_) (fun hc => ?_))
  · have h := h.1 hc
    obtain ⟨h0q1_124, h⟩ := h
    refine bi_Tr 3 (s' := (128, [(0, .ref 43), (1, .int y1), (2, .int y2)], [.ref (st_gp s 5), .ref (st_gp s 5)], st_mm s)) rfl ?_
    refine bi_Tgi (o := 0) rfl rfl rfl (st_kS0 h0q1_124) ?_
    refine bi_Tr 2 (s' := (133, [(0, .ref 43), (1, .int y1), (2, .int y2)], [.int ((st_g s (st_gp s 5) 0) + (1 : Int32)), .ref (st_gp s 5)], st_mm s)) rfl ?_
    refine bi_Tpi rfl rfl rfl rfl (st_kS0 h0q1_124) ?_
    refine bi_Tr 1 (s' := (137, [(0, .ref 43), (1, .int y1), (2, .int y2)], [.int (1 : Int32)], st_mm (st_p s (st_gp s 5) 0 ((st_g s (st_gp s 5) 0) + (1 : Int32))))) rfl ?_
    exact bi_Tv rfl rfl (Or.inl ⟨_, _, rfl, h⟩)
  · have h := h.2 hc
    refine bi_Tr 3 (s' := (49, [(0, .ref 43), (1, .int y1), (2, .int y2)], [.int (45 : Int32), .ref 1], st_mm s)) rfl ?_
    refine bi_TcI (as := [.ref 1, .int (45 : Int32)]) rfl rfl ?_
    refine cI.mono h (fun r3 s3 h => ?_) (fun _ _ h => h.elim)
    refine bi_Tr 3 (s' := ((if r3 = 0 then 64 else 57), [(3, .int r3), (0, .ref 43), (1, .int y1), (2, .int y2)], [], st_mm s3)) rfl (bi_Tif (fun hc => ?_) (fun hc => ?_))
    · have h := h.1 hc
      refine bi_Tr 4 (s' := (71, [(3, .int r3), (0, .ref 43), (1, .int y1), (2, .int y2)], [.int (2 : Int32), .int (99 : Int32), .ref 1], st_mm s3)) rfl ?_
      refine bi_TcI (as := [.ref 1, .int (99 : Int32), .int (2 : Int32)]) rfl rfl ?_
      refine cI.mono h (fun r4 s4 h => ?_) (fun _ _ h => h.elim)
      refine bi_Tr 1 (s' := ((if ¬ r4 = 0 then 79 else 77), [(3, .int r3), (0, .ref 43), (1, .int y1), (2, .int y2)], [], st_mm s4)) rfl (bi_Tif (fun hc => ?_) (fun hc => ?_))
      · have h := h.1 hc
        obtain ⟨h0q3_80, h⟩ := h
        refine bi_Tr 6 (s' := ((if r3 = 0 then 100 else 89), [(3, .int r3), (0, .ref 43), (1, .int y1), (2, .int y2)], [.int y2, .int y1, .ref (st_gp s4 5)], st_mm s4)) rfl (bi_Tif (fun hc => ?_) (fun hc => ?_))
        · have h := h.1 hc
          refine bi_Tr 3 (s' := (107, [(3, .int r3), (0, .ref 43), (1, .int y1), (2, .int y2)], [.int (st_g s4 1 6), .int y2, .int y1, .ref (st_gp s4 5)], st_mm s4)) rfl ?_
          refine bi_TcV (as := [.ref (st_gp s4 5), .int y1, .int y2, .int (st_g s4 1 6)]) (bi_TcO rfl rfl rfl (st_kS0 h0q3_80) rfl rfl) rfl ?_
          refine cV.mono h (fun s5 h => ?_) (fun _ _ h => h.elim)
          refine bi_Tr 2 (s' := (114, [(3, .int r3), (0, .ref 43), (1, .int y1), (2, .int y2)], [.ref 1], st_mm s5)) rfl ?_
          refine bi_TcV (as := [.ref 1]) rfl rfl ?_
          refine cV.mono h (fun s6 h => ?_) (fun _ _ h => h.elim)
          refine bi_Tr 2 (s' := (32, [(2, .int (y2 + (1 : Int32))), (3, .int r3), (0, .ref 43), (1, .int y1)], [], st_mm s6)) rfl ?_
          exact bi_Tww h rfl rfl ⟨rfl, rfl, rfl, trivial⟩
        · have h := h.2 hc
          refine bi_Tr 5 (s' := (107, [(3, .int r3), (0, .ref 43), (1, .int y1), (2, .int y2)], [.int (-(st_g s4 1 6)), .int y2, .int y1, .ref (st_gp s4 5)], st_mm s4)) rfl ?_
          refine bi_TcV (as := [.ref (st_gp s4 5), .int y1, .int y2, .int (-(st_g s4 1 6))]) (bi_TcO rfl rfl rfl (st_kS0 h0q3_80) rfl rfl) rfl ?_
          refine cV.mono h (fun s7 h => ?_) (fun _ _ h => h.elim)
          refine bi_Tr 2 (s' := (114, [(3, .int r3), (0, .ref 43), (1, .int y1), (2, .int y2)], [.ref 1], st_mm s7)) rfl ?_
          refine bi_TcV (as := [.ref 1]) rfl rfl ?_
          refine cV.mono h (fun s8 h => ?_) (fun _ _ h => h.elim)
          refine bi_Tr 2 (s' := (32, [(2, .int (y2 + (1 : Int32))), (3, .int r3), (0, .ref 43), (1, .int y1)], [], st_mm s8)) rfl ?_
          exact bi_Tww h rfl rfl ⟨rfl, rfl, rfl, trivial⟩
      · have h := h.2 hc
        refine bi_Tr 1 (s' := (78, [(3, .int r3), (0, .ref 43), (1, .int y1), (2, .int y2)], [.int (0 : Int32)], st_mm s4)) rfl ?_
        exact bi_Tv rfl rfl (Or.inl ⟨_, _, rfl, h⟩)
    · have h := h.2 hc
      refine bi_Tr 2 (s' := (61, [(3, .int r3), (0, .ref 43), (1, .int y1), (2, .int y2)], [.ref 1], st_mm s3)) rfl ?_
      refine bi_TcV (as := [.ref 1]) rfl rfl ?_
      refine cV.mono h (fun s9 h => ?_) (fun _ _ h => h.elim)
      refine bi_Tr 4 (s' := (71, [(3, .int r3), (0, .ref 43), (1, .int y1), (2, .int y2)], [.int (2 : Int32), .int (99 : Int32), .ref 1], st_mm s9)) rfl ?_
      refine bi_TcI (as := [.ref 1, .int (99 : Int32), .int (2 : Int32)]) rfl rfl ?_
      refine cI.mono h (fun r10 s10 h => ?_) (fun _ _ h => h.elim)
      refine bi_Tr 1 (s' := ((if ¬ r10 = 0 then 79 else 77), [(3, .int r3), (0, .ref 43), (1, .int y1), (2, .int y2)], [], st_mm s10)) rfl (bi_Tif (fun hc => ?_) (fun hc => ?_))
      · have h := h.1 hc
        obtain ⟨h0q3_80, h⟩ := h
        refine bi_Tr 6 (s' := ((if r3 = 0 then 100 else 89), [(3, .int r3), (0, .ref 43), (1, .int y1), (2, .int y2)], [.int y2, .int y1, .ref (st_gp s10 5)], st_mm s10)) rfl (bi_Tif (fun hc => ?_) (fun hc => ?_))
        · have h := h.1 hc
          refine bi_Tr 3 (s' := (107, [(3, .int r3), (0, .ref 43), (1, .int y1), (2, .int y2)], [.int (st_g s10 1 6), .int y2, .int y1, .ref (st_gp s10 5)], st_mm s10)) rfl ?_
          refine bi_TcV (as := [.ref (st_gp s10 5), .int y1, .int y2, .int (st_g s10 1 6)]) (bi_TcO rfl rfl rfl (st_kS0 h0q3_80) rfl rfl) rfl ?_
          refine cV.mono h (fun s11 h => ?_) (fun _ _ h => h.elim)
          refine bi_Tr 2 (s' := (114, [(3, .int r3), (0, .ref 43), (1, .int y1), (2, .int y2)], [.ref 1], st_mm s11)) rfl ?_
          refine bi_TcV (as := [.ref 1]) rfl rfl ?_
          refine cV.mono h (fun s12 h => ?_) (fun _ _ h => h.elim)
          refine bi_Tr 2 (s' := (32, [(2, .int (y2 + (1 : Int32))), (3, .int r3), (0, .ref 43), (1, .int y1)], [], st_mm s12)) rfl ?_
          exact bi_Tww h rfl rfl ⟨rfl, rfl, rfl, trivial⟩
        · have h := h.2 hc
          refine bi_Tr 5 (s' := (107, [(3, .int r3), (0, .ref 43), (1, .int y1), (2, .int y2)], [.int (-(st_g s10 1 6)), .int y2, .int y1, .ref (st_gp s10 5)], st_mm s10)) rfl ?_
          refine bi_TcV (as := [.ref (st_gp s10 5), .int y1, .int y2, .int (-(st_g s10 1 6))]) (bi_TcO rfl rfl rfl (st_kS0 h0q3_80) rfl rfl) rfl ?_
          refine cV.mono h (fun s13 h => ?_) (fun _ _ h => h.elim)
          refine bi_Tr 2 (s' := (114, [(3, .int r3), (0, .ref 43), (1, .int y1), (2, .int y2)], [.ref 1], st_mm s13)) rfl ?_
          refine bi_TcV (as := [.ref 1]) rfl rfl ?_
          refine cV.mono h (fun s14 h => ?_) (fun _ _ h => h.elim)
          refine bi_Tr 2 (s' := (32, [(2, .int (y2 + (1 : Int32))), (3, .int r3), (0, .ref 43), (1, .int y1)], [], st_mm s14)) rfl ?_
          exact bi_Tww h rfl rfl ⟨rfl, rfl, rfl, trivial⟩
      · have h := h.2 hc
        refine bi_Tr 1 (s' := (78, [(3, .int r3), (0, .ref 43), (1, .int y1), (2, .int y2)], [.int (0 : Int32)], st_mm s10)) rfl ?_
        exact bi_Tv rfl rfl (Or.inl ⟨_, _, rfl, h⟩)
/-- PolicyRows$TextReader.readRow()Z -/
theorem en_X9_readRow {X : bi_X} {d : Nat} {K : Int32 → bi_St → Prop} {E : Nat → bi_St → Prop} {s : bi_St}   (h : st_isS (st_gp s 5) ∧ ((((st_g s (st_gp s 5) 0) < (16 : Int32)) → cV X d 94 [.ref 1] s (fun (s1 : bi_St) => at_X9_readRow_32 X (d + 1) K E s1 ((st_g s (st_gp s 5) 0)) ((0 : Int32))) (fun _ _ => False)) ∧ (¬ ((st_g s (st_gp s 5) 0) < (16 : Int32)) → cI X d 99 [.ref 1, .int (2 : Int32)] s (fun (r2 : Int32) (s2 : bi_St) => bi_bool r2 = true ∧ (K r2 s2)) (fun _ _ => False)))) : cI X (d + 1) 107 [.ref 43] s K E := by
  show bi_T _ _ _ _ _
  obtain ⟨h0q0_1, h⟩ := h
  refine bi_Tr 2 (s' := (4, [(0, .ref 43)], [.ref (st_gp s 5)], st_mm s)) rfl ?_
  refine bi_Tgi (o := 0) rfl rfl rfl (st_kS0 h0q0_1) ?_
  refine bi_Tr 4 (s' := ((if (st_g s (st_gp s 5) 0) < (16 : Int32) then 23 else 14), [(1, .int (st_g s (st_gp s 5) 0)), (0, .ref 43)], [], st_mm s)) rfl (bi_Tif (fun hc => ?_) (fun hc => ?_))
  · have h := h.1 hc
    refine bi_Tr 2 (s' := (27, [(1, .int (st_g s (st_gp s 5) 0)), (0, .ref 43)], [.ref 1], st_mm s)) rfl ?_
    refine bi_TcV (as := [.ref 1]) rfl rfl ?_
    refine cV.mono h (fun s1 h => ?_) (fun _ _ h => h.elim)
    refine bi_Tr 2 (s' := (32, [(2, .int (0 : Int32)), (1, .int (st_g s (st_gp s 5) 0)), (0, .ref 43)], [], st_mm s1)) rfl ?_
    exact bi_Tww h rfl rfl ⟨rfl, rfl, rfl, trivial⟩
  · have h := h.2 hc
    refine bi_Tr 3 (s' := (19, [(1, .int (st_g s (st_gp s 5) 0)), (0, .ref 43)], [.int (2 : Int32), .ref 1], st_mm s)) rfl ?_
    refine bi_TcI (as := [.ref 1, .int (2 : Int32)]) rfl rfl ?_
    refine cI.mono h (fun r2 s2 h => ?_) (fun _ _ h => h.elim)
    obtain ⟨hi, h⟩ := h
    exact bi_Tv rfl hi (Or.inl ⟨_, _, rfl, h⟩)
def at_X9_readPolicy_129 (X : bi_X) (d : Nat) (K : Int32 → bi_St → Prop) (E : Nat → bi_St → Prop) (s : bi_St) (y1 : Int32) : Prop := bi_T X d 108 (129, [(0, .ref 43), (1, .int y1)], [], st_mm s) (st_RI K E)
def at_X9_readPolicy_174 (X : bi_X) (d : Nat) (K : Int32 → bi_St → Prop) (E : Nat → bi_St → Prop) (s : bi_St)  : Prop := bi_T X d 108 (174, [(0, .ref 43)], [], st_mm s) (st_RI K E)
theorem go_X9_readPolicy_129 {X : bi_X} {d : Nat} {K : Int32 → bi_St → Prop} {E : Nat → bi_St → Prop}  {s : bi_St} {y1 : Int32}  (h : ((¬ (st_g s 1 9) = 0) → at_X9_readPolicy_174 X (d + 1) K E s) ∧ (¬ (¬ (st_g s 1 9) = 0) → cI X d 96 [.ref 1, .ref 5013] s (fun (r7 : Int32) (s7 : bi_St) => ((r7 = 0) → at_X9_readPolicy_174 X (d + 1) K E s7) ∧ (¬ (r7 = 0) → cV X d 94 [.ref 1] s7 (fun (s8 : bi_St) => st_isB (st_gp s8 4) ∧ (cI X d 50 [.ref 44] s8 (fun (r9 : Int32) (s9 : bi_St) => bi_in y1 8 = true ∧ (at_X9_readPolicy_174 X (d + 1) K E (st_p s9 ((st_gp s8 4) + 4) (y1).toNatClampNeg r9))) (fun _ _ => False))) (fun _ _ => False))) (fun _ _ => False))) : at_X9_readPolicy_129 X (d + 1) K E s y1 := by
  show bi_T _ _ _ _ _
  refine bi_Tr 4 (s' := ((if ¬ (st_g s 1 9) = 0 then 174 else 139), [(0, .ref 43), (1, .int y1)], [], st_mm s)) rfl (bi_Tif (fun hc => ?_) (fun hc => ?_))
  · have h := h.1 hc
    exact bi_Tww h rfl rfl ⟨rfl, trivial⟩
  · have h := h.2 hc
    refine bi_Tr 3 (s' := (145, [(0, .ref 43), (1, .int y1)], [.ref 5013, .ref 1], st_mm s)) rfl ?_
    refine bi_TcI (as := [.ref 1, .ref 5013]) rfl rfl ?_
    refine cI.mono h (fun r7 s7 h => ?_) (fun _ _ h => h.elim)
    refine bi_Tr 1 (s' := ((if r7 = 0 then 174 else 151), [(0, .ref 43), (1, .int y1)], [], st_mm s7)) rfl (bi_Tif (fun hc => ?_) (fun hc => ?_))
    · have h := h.1 hc
      exact bi_Tww h rfl rfl ⟨rfl, trivial⟩
    · have h := h.2 hc
      refine bi_Tr 2 (s' := (155, [(0, .ref 43), (1, .int y1)], [.ref 1], st_mm s7)) rfl ?_
      refine bi_TcV (as := [.ref 1]) rfl rfl ?_
      refine cV.mono h (fun s8 h => ?_) (fun _ _ h => h.elim)
      obtain ⟨h0q2_159, h⟩ := h
      refine bi_Tr 2 (s' := (162, [(0, .ref 43), (1, .int y1)], [.ref (st_gp s8 4)], st_mm s8)) rfl ?_
      refine bi_Tgr rfl rfl rfl (st_kB0 h0q2_159) (st_pB7 h0q2_159) ?_
      refine bi_Tr 3 (s' := (170, [(0, .ref 43), (1, .int y1)], [.ref 44, .int y1, .ref ((st_gp s8 4) + 4)], st_mm s8)) rfl ?_
      refine bi_TcI (as := [.ref 44]) rfl rfl ?_
      refine cI.mono h (fun r9 s9 h => ?_) (fun _ _ h => h.elim)
      obtain ⟨hi, h⟩ := h
      refine bi_Tias rfl (st_kB4 h0q2_159) hi ?_
      exact bi_Tww h rfl rfl ⟨rfl, trivial⟩
theorem go_X9_readPolicy_174 {X : bi_X} {d : Nat} {K : Int32 → bi_St → Prop} {E : Nat → bi_St → Prop}  {s : bi_St}   (h : ((¬ (st_g s 1 9) = 0) → K (0 : Int32) s) ∧ (¬ (¬ (st_g s 1 9) = 0) → K (1 : Int32) s)) : at_X9_readPolicy_174 X (d + 1) K E s  := by
  show bi_T _ _ _ _ _
  refine bi_Tr 4 (s' := ((if ¬ (st_g s 1 9) = 0 then 188 else 184), [(0, .ref 43)], [], st_mm s)) rfl (bi_Tif (fun hc => ?_) (fun hc => ?_))
  · have h := h.1 hc
    refine bi_Tr 1 (s' := (189, [(0, .ref 43)], [.int (0 : Int32)], st_mm s)) rfl ?_
    exact bi_Tv rfl rfl (Or.inl ⟨_, _, rfl, h⟩)
  · have h := h.2 hc
    refine bi_Tr 2 (s' := (189, [(0, .ref 43)], [.int (1 : Int32)], st_mm s)) rfl ?_
    exact bi_Tv rfl rfl (Or.inl ⟨_, _, rfl, h⟩)
/-- PolicyRows$TextReader.readPolicy()Z -/
theorem en_X9_readPolicy {X : bi_X} {d : Nat} {K : Int32 → bi_St → Prop} {E : Nat → bi_St → Prop} {s : bi_St}   (h : st_isB (st_gp s 4) ∧ ((((st_g s (st_gp s 4) 2) < (8 : Int32)) → st_isB (st_gp s 4) ∧ (bi_in (st_g s (st_gp s 4) 2) 8 = true ∧ (st_isB (st_gp (st_p s ((st_gp s 4) + 3) ((st_g s (st_gp s 4) 2)).toNatClampNeg (-1 : Int32)) 4) ∧ (bi_in (st_g s (st_gp s 4) 2) 8 = true ∧ (st_isB (st_gp (st_p (st_p s ((st_gp s 4) + 3) ((st_g s (st_gp s 4) 2)).toNatClampNeg (-1 : Int32)) ((st_gp (st_p s ((st_gp s 4) + 3) ((st_g s (st_gp s 4) 2)).toNatClampNeg (-1 : Int32)) 4) + 4) ((st_g s (st_gp s 4) 2)).toNatClampNeg (-1 : Int32)) 4) ∧ (cI X d 109 [.ref 43, .int (st_g s (st_gp s 4) 2)] (st_p (st_p (st_p s ((st_gp s 4) + 3) ((st_g s (st_gp s 4) 2)).toNatClampNeg (-1 : Int32)) ((st_gp (st_p s ((st_gp s 4) + 3) ((st_g s (st_gp s 4) 2)).toNatClampNeg (-1 : Int32)) 4) + 4) ((st_g s (st_gp s 4) 2)).toNatClampNeg (-1 : Int32)) (st_gp (st_p (st_p s ((st_gp s 4) + 3) ((st_g s (st_gp s 4) 2)).toNatClampNeg (-1 : Int32)) ((st_gp (st_p s ((st_gp s 4) + 3) ((st_g s (st_gp s 4) 2)).toNatClampNeg (-1 : Int32)) 4) + 4) ((st_g s (st_gp s 4) 2)).toNatClampNeg (-1 : Int32)) 4) 2 ((st_g (st_p (st_p s ((st_gp s 4) + 3) ((st_g s (st_gp s 4) 2)).toNatClampNeg (-1 : Int32)) ((st_gp (st_p s ((st_gp s 4) + 3) ((st_g s (st_gp s 4) 2)).toNatClampNeg (-1 : Int32)) 4) + 4) ((st_g s (st_gp s 4) 2)).toNatClampNeg (-1 : Int32)) (st_gp (st_p (st_p s ((st_gp s 4) + 3) ((st_g s (st_gp s 4) 2)).toNatClampNeg (-1 : Int32)) ((st_gp (st_p s ((st_gp s 4) + 3) ((st_g s (st_gp s 4) 2)).toNatClampNeg (-1 : Int32)) 4) + 4) ((st_g s (st_gp s 4) 2)).toNatClampNeg (-1 : Int32)) 4) 2) + (1 : Int32))) (fun (r1 : Int32) (s1 : bi_St) => ((¬ r1 = 0) → st_isB (st_gp s1 4) ∧ (st_isB (st_gp s1 4) ∧ (st_isB (st_gp s1 4) ∧ (cV X d 49 [.ref 44, .ref ((st_gp s1 4) + 8), .int (st_g s1 (st_gp s1 4) 0), .int (st_g s1 (st_gp s1 4) 1)] s1 (fun (s2 : bi_St) => cI X d 96 [.ref 1, .ref 5012] s2 (fun (r3 : Int32) (s3 : bi_St) => ((r3 = 0) → at_X9_readPolicy_129 X (d + 1) K E s3 ((st_g s (st_gp s 4) 2))) ∧ (¬ (r3 = 0) → cV X d 94 [.ref 1] s3 (fun (s4 : bi_St) => st_isB (st_gp s4 4) ∧ (cI X d 50 [.ref 44] s4 (fun (r5 : Int32) (s5 : bi_St) => bi_in (st_g s (st_gp s 4) 2) 8 = true ∧ (at_X9_readPolicy_129 X (d + 1) K E (st_p s5 ((st_gp s4 4) + 3) ((st_g s (st_gp s 4) 2)).toNatClampNeg r5) ((st_g s (st_gp s 4) 2)))) (fun _ _ => False))) (fun _ _ => False))) (fun _ _ => False)) (fun _ _ => False))))) ∧ (¬ (¬ r1 = 0) → K (0 : Int32) s1)) (fun _ _ => False))))))) ∧ (¬ ((st_g s (st_gp s 4) 2) < (8 : Int32)) → cI X d 99 [.ref 1, .int (2 : Int32)] s (fun (r6 : Int32) (s6 : bi_St) => bi_bool r6 = true ∧ (K r6 s6)) (fun _ _ => False)))) : cI X (d + 1) 108 [.ref 43] s K E := by
  show bi_T _ _ _ _ _
  obtain ⟨h0q0_1, h⟩ := h
  refine bi_Tr 2 (s' := (4, [(0, .ref 43)], [.ref (st_gp s 4)], st_mm s)) rfl ?_
  refine bi_Tgi (o := 0) rfl rfl rfl (st_kB0 h0q0_1) ?_
  refine bi_Tr 4 (s' := ((if (st_g s (st_gp s 4) 2) < (8 : Int32) then 23 else 14), [(1, .int (st_g s (st_gp s 4) 2)), (0, .ref 43)], [], st_mm s)) rfl (bi_Tif (fun hc => ?_) (fun hc => ?_))
  · have h := h.1 hc
    obtain ⟨h0q1_24, h⟩ := h
    refine bi_Tr 2 (s' := (27, [(1, .int (st_g s (st_gp s 4) 2)), (0, .ref 43)], [.ref (st_gp s 4)], st_mm s)) rfl ?_
    refine bi_Tgr rfl rfl rfl (st_kB0 h0q1_24) (st_pB6 h0q1_24) ?_
    refine bi_Tr 2 (s' := (32, [(1, .int (st_g s (st_gp s 4) 2)), (0, .ref 43)], [.int (-1 : Int32), .int (st_g s (st_gp s 4) 2), .ref ((st_gp s 4) + 3)], st_mm s)) rfl ?_
    obtain ⟨hi, h⟩ := h
    refine bi_Tias rfl (st_kB3 h0q1_24) hi ?_
    obtain ⟨h63q1_34, h⟩ := h
    refine bi_Tr 2 (s' := (37, [(1, .int (st_g s (st_gp s 4) 2)), (0, .ref 43)], [.ref (st_gp (st_p s ((st_gp s 4) + 3) ((st_g s (st_gp s 4) 2)).toNatClampNeg (-1 : Int32)) 4)], st_mm (st_p s ((st_gp s 4) + 3) ((st_g s (st_gp s 4) 2)).toNatClampNeg (-1 : Int32)))) rfl ?_
    refine bi_Tgr rfl rfl rfl (st_kB0 h63q1_34) (st_pB7 h63q1_34) ?_
    refine bi_Tr 2 (s' := (42, [(1, .int (st_g s (st_gp s 4) 2)), (0, .ref 43)], [.int (-1 : Int32), .int (st_g s (st_gp s 4) 2), .ref ((st_gp (st_p s ((st_gp s 4) + 3) ((st_g s (st_gp s 4) 2)).toNatClampNeg (-1 : Int32)) 4) + 4)], st_mm (st_p s ((st_gp s 4) + 3) ((st_g s (st_gp s 4) 2)).toNatClampNeg (-1 : Int32)))) rfl ?_
    obtain ⟨hi, h⟩ := h
    refine bi_Tias rfl (st_kB4 h63q1_34) hi ?_
    obtain ⟨h203q1_44, h⟩ := h
    refine bi_Tr 3 (s' := (48, [(1, .int (st_g s (st_gp s 4) 2)), (0, .ref 43)], [.ref (st_gp (st_p (st_p s ((st_gp s 4) + 3) ((st_g s (st_gp s 4) 2)).toNatClampNeg (-1 : Int32)) ((st_gp (st_p s ((st_gp s 4) + 3) ((st_g s (st_gp s 4) 2)).toNatClampNeg (-1 : Int32)) 4) + 4) ((st_g s (st_gp s 4) 2)).toNatClampNeg (-1 : Int32)) 4), .ref (st_gp (st_p (st_p s ((st_gp s 4) + 3) ((st_g s (st_gp s 4) 2)).toNatClampNeg (-1 : Int32)) ((st_gp (st_p s ((st_gp s 4) + 3) ((st_g s (st_gp s 4) 2)).toNatClampNeg (-1 : Int32)) 4) + 4) ((st_g s (st_gp s 4) 2)).toNatClampNeg (-1 : Int32)) 4)], st_mm (st_p (st_p s ((st_gp s 4) + 3) ((st_g s (st_gp s 4) 2)).toNatClampNeg (-1 : Int32)) ((st_gp (st_p s ((st_gp s 4) + 3) ((st_g s (st_gp s 4) 2)).toNatClampNeg (-1 : Int32)) 4) + 4) ((st_g s (st_gp s 4) 2)).toNatClampNeg (-1 : Int32)))) rfl ?_
    refine bi_Tgi (o := 0) rfl rfl rfl (st_kB0 h203q1_44) ?_
    refine bi_Tr 2 (s' := (53, [(1, .int (st_g s (st_gp s 4) 2)), (0, .ref 43)], [.int ((st_g (st_p (st_p s ((st_gp s 4) + 3) ((st_g s (st_gp s 4) 2)).toNatClampNeg (-1 : Int32)) ((st_gp (st_p s ((st_gp s 4) + 3) ((st_g s (st_gp s 4) 2)).toNatClampNeg (-1 : Int32)) 4) + 4) ((st_g s (st_gp s 4) 2)).toNatClampNeg (-1 : Int32)) (st_gp (st_p (st_p s ((st_gp s 4) + 3) ((st_g s (st_gp s 4) 2)).toNatClampNeg (-1 : Int32)) ((st_gp (st_p s ((st_gp s 4) + 3) ((st_g s (st_gp s 4) 2)).toNatClampNeg (-1 : Int32)) 4) + 4) ((st_g s (st_gp s 4) 2)).toNatClampNeg (-1 : Int32)) 4) 2) + (1 : Int32)), .ref (st_gp (st_p (st_p s ((st_gp s 4) + 3) ((st_g s (st_gp s 4) 2)).toNatClampNeg (-1 : Int32)) ((st_gp (st_p s ((st_gp s 4) + 3) ((st_g s (st_gp s 4) 2)).toNatClampNeg (-1 : Int32)) 4) + 4) ((st_g s (st_gp s 4) 2)).toNatClampNeg (-1 : Int32)) 4)], st_mm (st_p (st_p s ((st_gp s 4) + 3) ((st_g s (st_gp s 4) 2)).toNatClampNeg (-1 : Int32)) ((st_gp (st_p s ((st_gp s 4) + 3) ((st_g s (st_gp s 4) 2)).toNatClampNeg (-1 : Int32)) 4) + 4) ((st_g s (st_gp s 4) 2)).toNatClampNeg (-1 : Int32)))) rfl ?_
    refine bi_Tpi rfl rfl rfl rfl (st_kB0 h203q1_44) ?_
    refine bi_Tr 2 (s' := (58, [(1, .int (st_g s (st_gp s 4) 2)), (0, .ref 43)], [.int (st_g s (st_gp s 4) 2), .ref 43], st_mm (st_p (st_p (st_p s ((st_gp s 4) + 3) ((st_g s (st_gp s 4) 2)).toNatClampNeg (-1 : Int32)) ((st_gp (st_p s ((st_gp s 4) + 3) ((st_g s (st_gp s 4) 2)).toNatClampNeg (-1 : Int32)) 4) + 4) ((st_g s (st_gp s 4) 2)).toNatClampNeg (-1 : Int32)) (st_gp (st_p (st_p s ((st_gp s 4) + 3) ((st_g s (st_gp s 4) 2)).toNatClampNeg (-1 : Int32)) ((st_gp (st_p s ((st_gp s 4) + 3) ((st_g s (st_gp s 4) 2)).toNatClampNeg (-1 : Int32)) 4) + 4) ((st_g s (st_gp s 4) 2)).toNatClampNeg (-1 : Int32)) 4) 2 ((st_g (st_p (st_p s ((st_gp s 4) + 3) ((st_g s (st_gp s 4) 2)).toNatClampNeg (-1 : Int32)) ((st_gp (st_p s ((st_gp s 4) + 3) ((st_g s (st_gp s 4) 2)).toNatClampNeg (-1 : Int32)) 4) + 4) ((st_g s (st_gp s 4) 2)).toNatClampNeg (-1 : Int32)) (st_gp (st_p (st_p s ((st_gp s 4) + 3) ((st_g s (st_gp s 4) 2)).toNatClampNeg (-1 : Int32)) ((st_gp (st_p s ((st_gp s 4) + 3) ((st_g s (st_gp s 4) 2)).toNatClampNeg (-1 : Int32)) 4) + 4) ((st_g s (st_gp s 4) 2)).toNatClampNeg (-1 : Int32)) 4) 2) + (1 : Int32))))) rfl ?_
    refine bi_TcI (as := [.ref 43, .int (st_g s (st_gp s 4) 2)]) rfl rfl ?_
    refine cI.mono h (fun r1 s1 h => ?_) (fun _ _ h => h.elim)
    refine bi_Tr 1 (s' := ((if ¬ r1 = 0 then 66 else 64), [(1, .int (st_g s (st_gp s 4) 2)), (0, .ref 43)], [], st_mm s1)) rfl (bi_Tif (fun hc => ?_) (fun hc => ?_))
    · have h := h.1 hc
      obtain ⟨h0q2_71, h⟩ := h
      refine bi_Tr 4 (s' := (74, [(1, .int (st_g s (st_gp s 4) 2)), (0, .ref 43)], [.ref (st_gp s1 4), .ref 44], st_mm s1)) rfl ?_
      refine bi_Tgr rfl rfl rfl (st_kB0 h0q2_71) (st_pB13 h0q2_71) ?_
      obtain ⟨h23q2_78, h⟩ := h
      refine bi_Tr 2 (s' := (81, [(1, .int (st_g s (st_gp s 4) 2)), (0, .ref 43)], [.ref (st_gp s1 4), .ref ((st_gp s1 4) + 8), .ref 44], st_mm s1)) rfl ?_
      refine bi_Tgi (o := 0) rfl rfl rfl (st_kB0 h23q2_78) ?_
      obtain ⟨h46q2_85, h⟩ := h
      refine bi_Tr 2 (s' := (88, [(1, .int (st_g s (st_gp s 4) 2)), (0, .ref 43)], [.ref (st_gp s1 4), .int (st_g s1 (st_gp s1 4) 0), .ref ((st_gp s1 4) + 8), .ref 44], st_mm s1)) rfl ?_
      refine bi_Tgi (o := 0) rfl rfl rfl (st_kB0 h46q2_85) ?_
      refine bi_TcV (as := [.ref 44, .ref ((st_gp s1 4) + 8), .int (st_g s1 (st_gp s1 4) 0), .int (st_g s1 (st_gp s1 4) 1)]) rfl rfl ?_
      refine cV.mono h (fun s2 h => ?_) (fun _ _ h => h.elim)
      refine bi_Tr 3 (s' := (100, [(1, .int (st_g s (st_gp s 4) 2)), (0, .ref 43)], [.ref 5012, .ref 1], st_mm s2)) rfl ?_
      refine bi_TcI (as := [.ref 1, .ref 5012]) rfl rfl ?_
      refine cI.mono h (fun r3 s3 h => ?_) (fun _ _ h => h.elim)
      refine bi_Tr 1 (s' := ((if r3 = 0 then 129 else 106), [(1, .int (st_g s (st_gp s 4) 2)), (0, .ref 43)], [], st_mm s3)) rfl (bi_Tif (fun hc => ?_) (fun hc => ?_))
      · have h := h.1 hc
        exact bi_Tww h rfl rfl ⟨rfl, rfl, trivial⟩
      · have h := h.2 hc
        refine bi_Tr 2 (s' := (110, [(1, .int (st_g s (st_gp s 4) 2)), (0, .ref 43)], [.ref 1], st_mm s3)) rfl ?_
        refine bi_TcV (as := [.ref 1]) rfl rfl ?_
        refine cV.mono h (fun s4 h => ?_) (fun _ _ h => h.elim)
        obtain ⟨h0q3_114, h⟩ := h
        refine bi_Tr 2 (s' := (117, [(1, .int (st_g s (st_gp s 4) 2)), (0, .ref 43)], [.ref (st_gp s4 4)], st_mm s4)) rfl ?_
        refine bi_Tgr rfl rfl rfl (st_kB0 h0q3_114) (st_pB6 h0q3_114) ?_
        refine bi_Tr 3 (s' := (125, [(1, .int (st_g s (st_gp s 4) 2)), (0, .ref 43)], [.ref 44, .int (st_g s (st_gp s 4) 2), .ref ((st_gp s4 4) + 3)], st_mm s4)) rfl ?_
        refine bi_TcI (as := [.ref 44]) rfl rfl ?_
        refine cI.mono h (fun r5 s5 h => ?_) (fun _ _ h => h.elim)
        obtain ⟨hi, h⟩ := h
        refine bi_Tias rfl (st_kB3 h0q3_114) hi ?_
        exact bi_Tww h rfl rfl ⟨rfl, rfl, trivial⟩
    · have h := h.2 hc
      refine bi_Tr 1 (s' := (65, [(1, .int (st_g s (st_gp s 4) 2)), (0, .ref 43)], [.int (0 : Int32)], st_mm s1)) rfl ?_
      exact bi_Tv rfl rfl (Or.inl ⟨_, _, rfl, h⟩)
  · have h := h.2 hc
    refine bi_Tr 3 (s' := (19, [(1, .int (st_g s (st_gp s 4) 2)), (0, .ref 43)], [.int (2 : Int32), .ref 1], st_mm s)) rfl ?_
    refine bi_TcI (as := [.ref 1, .int (2 : Int32)]) rfl rfl ?_
    refine cI.mono h (fun r6 s6 h => ?_) (fun _ _ h => h.elim)
    obtain ⟨hi, h⟩ := h
    exact bi_Tv rfl hi (Or.inl ⟨_, _, rfl, h⟩)
def at_X9_readWhose_98 (X : bi_X) (d : Nat) (K : Int32 → bi_St → Prop) (E : Nat → bi_St → Prop) (s : bi_St) (y1 : Int32) : Prop := bi_T X d 109 (98, [(0, .ref 43), (1, .int y1)], [], st_mm s) (st_RI K E)
theorem go_X9_readWhose_98 {X : bi_X} {d : Nat} {K : Int32 → bi_St → Prop} {E : Nat → bi_St → Prop}  {s : bi_St} {y1 : Int32}  (h : cV X d 94 [.ref 1] s (fun (s8 : bi_St) => st_isB (st_gp s8 4) ∧ (cI X d 110 [.ref 43] s8 (fun (r9 : Int32) (s9 : bi_St) => bi_in y1 8 = true ∧ (st_isB (st_gp (st_p s9 ((st_gp s8 4) + 2) (y1).toNatClampNeg r9) 4) ∧ (bi_in y1 8 = true ∧ (((¬ (st_g (st_p s9 ((st_gp s8 4) + 2) (y1).toNatClampNeg r9) ((st_gp (st_p s9 ((st_gp s8 4) + 2) (y1).toNatClampNeg r9) 4) + 2) (y1).toNatClampNeg) = (-1 : Int32)) → cV X d 94 [.ref 1] (st_p s9 ((st_gp s8 4) + 2) (y1).toNatClampNeg r9) (fun (s10 : bi_St) => K (1 : Int32) s10) (fun _ _ => False)) ∧ (¬ (¬ (st_g (st_p s9 ((st_gp s8 4) + 2) (y1).toNatClampNeg r9) ((st_gp (st_p s9 ((st_gp s8 4) + 2) (y1).toNatClampNeg r9) 4) + 2) (y1).toNatClampNeg) = (-1 : Int32)) → cI X d 99 [.ref 1, .int (1 : Int32)] (st_p s9 ((st_gp s8 4) + 2) (y1).toNatClampNeg r9) (fun (r11 : Int32) (s11 : bi_St) => bi_bool r11 = true ∧ (K r11 s11)) (fun _ _ => False)))))) (fun _ _ => False))) (fun _ _ => False)) : at_X9_readWhose_98 X (d + 1) K E s y1 := by
  show bi_T _ _ _ _ _
  refine bi_Tr 2 (s' := (102, [(0, .ref 43), (1, .int y1)], [.ref 1], st_mm s)) rfl ?_
  refine bi_TcV (as := [.ref 1]) rfl rfl ?_
  refine cV.mono h (fun s8 h => ?_) (fun _ _ h => h.elim)
  obtain ⟨h0q0_106, h⟩ := h
  refine bi_Tr 2 (s' := (109, [(0, .ref 43), (1, .int y1)], [.ref (st_gp s8 4)], st_mm s8)) rfl ?_
  refine bi_Tgr rfl rfl rfl (st_kB0 h0q0_106) (st_pB5 h0q0_106) ?_
  refine bi_Tr 2 (s' := (114, [(0, .ref 43), (1, .int y1)], [.ref 43, .int y1, .ref ((st_gp s8 4) + 2)], st_mm s8)) rfl ?_
  refine bi_TcI (as := [.ref 43]) rfl rfl ?_
  refine cI.mono h (fun r9 s9 h => ?_) (fun _ _ h => h.elim)
  obtain ⟨hi, h⟩ := h
  refine bi_Tias rfl (st_kB2 h0q0_106) hi ?_
  obtain ⟨h21q0_119, h⟩ := h
  refine bi_Tr 2 (s' := (122, [(0, .ref 43), (1, .int y1)], [.ref (st_gp (st_p s9 ((st_gp s8 4) + 2) (y1).toNatClampNeg r9) 4)], st_mm (st_p s9 ((st_gp s8 4) + 2) (y1).toNatClampNeg r9))) rfl ?_
  refine bi_Tgr rfl rfl rfl (st_kB0 h21q0_119) (st_pB5 h21q0_119) ?_
  refine bi_Tr 1 (s' := (126, [(0, .ref 43), (1, .int y1)], [.int y1, .ref ((st_gp (st_p s9 ((st_gp s8 4) + 2) (y1).toNatClampNeg r9) 4) + 2)], st_mm (st_p s9 ((st_gp s8 4) + 2) (y1).toNatClampNeg r9))) rfl ?_
  obtain ⟨hi, h⟩ := h
  refine bi_Tial rfl (by have := h21q0_119; simp only [st_isB] at this; rcases this with h | h <;> rw [h] <;> rfl) (st_kB2 h21q0_119) hi ?_
  refine bi_Tr 2 (s' := ((if ¬ (st_g (st_p s9 ((st_gp s8 4) + 2) (y1).toNatClampNeg r9) ((st_gp (st_p s9 ((st_gp s8 4) + 2) (y1).toNatClampNeg r9) 4) + 2) (y1).toNatClampNeg) = (-1 : Int32) then 140 else 131), [(0, .ref 43), (1, .int y1)], [], st_mm (st_p s9 ((st_gp s8 4) + 2) (y1).toNatClampNeg r9))) rfl (bi_Tif (fun hc => ?_) (fun hc => ?_))
  · have h := h.1 hc
    refine bi_Tr 2 (s' := (144, [(0, .ref 43), (1, .int y1)], [.ref 1], st_mm (st_p s9 ((st_gp s8 4) + 2) (y1).toNatClampNeg r9))) rfl ?_
    refine bi_TcV (as := [.ref 1]) rfl rfl ?_
    refine cV.mono h (fun s10 h => ?_) (fun _ _ h => h.elim)
    refine bi_Tr 1 (s' := (148, [(0, .ref 43), (1, .int y1)], [.int (1 : Int32)], st_mm s10)) rfl ?_
    exact bi_Tv rfl rfl (Or.inl ⟨_, _, rfl, h⟩)
  · have h := h.2 hc
    refine bi_Tr 3 (s' := (136, [(0, .ref 43), (1, .int y1)], [.int (1 : Int32), .ref 1], st_mm (st_p s9 ((st_gp s8 4) + 2) (y1).toNatClampNeg r9))) rfl ?_
    refine bi_TcI (as := [.ref 1, .int (1 : Int32)]) rfl rfl ?_
    refine cI.mono h (fun r11 s11 h => ?_) (fun _ _ h => h.elim)
    obtain ⟨hi, h⟩ := h
    exact bi_Tv rfl hi (Or.inl ⟨_, _, rfl, h⟩)
/-- PolicyRows$TextReader.readWhose(I)Z -/
theorem en_X9_readWhose {X : bi_X} {d : Nat} {K : Int32 → bi_St → Prop} {E : Nat → bi_St → Prop} {s : bi_St} {x0 : Int32}  (h : st_isB (st_gp s 4) ∧ (cI X d 96 [.ref 1, .ref 5010] s (fun (r1 : Int32) (s1 : bi_St) => ((r1 = 0) → cV X d 94 [.ref 1] (st_p s1 (st_gp s 4) 3 ((st_g s (st_gp s 4) 3) ||| (0 : Int32))) (fun (s2 : bi_St) => st_isB (st_gp s2 4) ∧ (bi_in x0 8 = true ∧ (cI X d 96 [.ref 1, .ref 5014] (st_p s2 ((st_gp s2 4) + 1) (x0).toNatClampNeg (-1 : Int32)) (fun (r3 : Int32) (s3 : bi_St) => ((¬ r3 = 0) → at_X9_readWhose_98 X (d + 1) K E s3 (x0)) ∧ (¬ (¬ r3 = 0) → st_isB (st_gp s3 4) ∧ (cI X d 101 [.ref 1, .int ((st_g s3 (st_gp s3 4) 1) - (1 : Int32)), .int (3 : Int32)] s3 (fun (r4 : Int32) (s4 : bi_St) => ((¬ r4 = 0) → st_isB (st_gp s4 4) ∧ (bi_in x0 8 = true ∧ (at_X9_readWhose_98 X (d + 1) K E (st_p s4 ((st_gp s4 4) + 1) (x0).toNatClampNeg (st_g s4 1 6)) (x0)))) ∧ (¬ (¬ r4 = 0) → K (0 : Int32) s4)) (fun _ _ => False)))) (fun _ _ => False)))) (fun _ _ => False)) ∧ (¬ (r1 = 0) → cV X d 94 [.ref 1] (st_p s1 (st_gp s 4) 3 ((st_g s (st_gp s 4) 3) ||| ((1 : Int32) <<< (x0 &&& 31)))) (fun (s5 : bi_St) => st_isB (st_gp s5 4) ∧ (bi_in x0 8 = true ∧ (cI X d 96 [.ref 1, .ref 5014] (st_p s5 ((st_gp s5 4) + 1) (x0).toNatClampNeg (-1 : Int32)) (fun (r6 : Int32) (s6 : bi_St) => ((¬ r6 = 0) → at_X9_readWhose_98 X (d + 1) K E s6 (x0)) ∧ (¬ (¬ r6 = 0) → st_isB (st_gp s6 4) ∧ (cI X d 101 [.ref 1, .int ((st_g s6 (st_gp s6 4) 1) - (1 : Int32)), .int (3 : Int32)] s6 (fun (r7 : Int32) (s7 : bi_St) => ((¬ r7 = 0) → st_isB (st_gp s7 4) ∧ (bi_in x0 8 = true ∧ (at_X9_readWhose_98 X (d + 1) K E (st_p s7 ((st_gp s7 4) + 1) (x0).toNatClampNeg (st_g s7 1 6)) (x0)))) ∧ (¬ (¬ r7 = 0) → K (0 : Int32) s7)) (fun _ _ => False)))) (fun _ _ => False)))) (fun _ _ => False))) (fun _ _ => False))) : cI X (d + 1) 109 [.ref 43, .int x0] s K E := by
  show bi_T _ _ _ _ _
  obtain ⟨h0q0_1, h⟩ := h
  refine bi_Tr 3 (s' := (5, [(0, .ref 43), (1, .int x0)], [.ref (st_gp s 4), .ref (st_gp s 4)], st_mm s)) rfl ?_
  refine bi_Tgi (o := 0) rfl rfl rfl (st_kB0 h0q0_1) ?_
  refine bi_Tr 3 (s' := (14, [(0, .ref 43), (1, .int x0)], [.ref 5010, .ref 1, .int (st_g s (st_gp s 4) 3), .ref (st_gp s 4)], st_mm s)) rfl ?_
  refine bi_TcI (as := [.ref 1, .ref 5010]) rfl rfl ?_
  refine cI.mono h (fun r1 s1 h => ?_) (fun _ _ h => h.elim)
  refine bi_Tr 1 (s' := ((if r1 = 0 then 26 else 20), [(0, .ref 43), (1, .int x0)], [.int (st_g s (st_gp s 4) 3), .ref (st_gp s 4)], st_mm s1)) rfl (bi_Tif (fun hc => ?_) (fun hc => ?_))
  · have h := h.1 hc
    refine bi_Tr 2 (s' := (28, [(0, .ref 43), (1, .int x0)], [.int ((st_g s (st_gp s 4) 3) ||| (0 : Int32)), .ref (st_gp s 4)], st_mm s1)) rfl ?_
    refine bi_Tpi rfl rfl rfl rfl (st_kB0 h0q0_1) ?_
    refine bi_Tr 2 (s' := (35, [(0, .ref 43), (1, .int x0)], [.ref 1], st_mm (st_p s1 (st_gp s 4) 3 ((st_g s (st_gp s 4) 3) ||| (0 : Int32))))) rfl ?_
    refine bi_TcV (as := [.ref 1]) rfl rfl ?_
    refine cV.mono h (fun s2 h => ?_) (fun _ _ h => h.elim)
    obtain ⟨h0q1_39, h⟩ := h
    refine bi_Tr 2 (s' := (42, [(0, .ref 43), (1, .int x0)], [.ref (st_gp s2 4)], st_mm s2)) rfl ?_
    refine bi_Tgr rfl rfl rfl (st_kB0 h0q1_39) (st_pB4 h0q1_39) ?_
    refine bi_Tr 2 (s' := (47, [(0, .ref 43), (1, .int x0)], [.int (-1 : Int32), .int x0, .ref ((st_gp s2 4) + 1)], st_mm s2)) rfl ?_
    obtain ⟨hi, h⟩ := h
    refine bi_Tias rfl (st_kB1 h0q1_39) hi ?_
    refine bi_Tr 3 (s' := (54, [(0, .ref 43), (1, .int x0)], [.ref 5014, .ref 1], st_mm (st_p s2 ((st_gp s2 4) + 1) (x0).toNatClampNeg (-1 : Int32)))) rfl ?_
    refine bi_TcI (as := [.ref 1, .ref 5014]) rfl rfl ?_
    refine cI.mono h (fun r3 s3 h => ?_) (fun _ _ h => h.elim)
    refine bi_Tr 1 (s' := ((if ¬ r3 = 0 then 98 else 60), [(0, .ref 43), (1, .int x0)], [], st_mm s3)) rfl (bi_Tif (fun hc => ?_) (fun hc => ?_))
    · have h := h.1 hc
      exact bi_Tww h rfl rfl ⟨rfl, rfl, trivial⟩
    · have h := h.2 hc
      obtain ⟨h0q2_65, h⟩ := h
      refine bi_Tr 4 (s' := (68, [(0, .ref 43), (1, .int x0)], [.ref (st_gp s3 4), .ref 1], st_mm s3)) rfl ?_
      refine bi_Tgi (o := 0) rfl rfl rfl (st_kB0 h0q2_65) ?_
      refine bi_Tr 3 (s' := (74, [(0, .ref 43), (1, .int x0)], [.int (3 : Int32), .int ((st_g s3 (st_gp s3 4) 1) - (1 : Int32)), .ref 1], st_mm s3)) rfl ?_
      refine bi_TcI (as := [.ref 1, .int ((st_g s3 (st_gp s3 4) 1) - (1 : Int32)), .int (3 : Int32)]) rfl rfl ?_
      refine cI.mono h (fun r4 s4 h => ?_) (fun _ _ h => h.elim)
      refine bi_Tr 1 (s' := ((if ¬ r4 = 0 then 82 else 80), [(0, .ref 43), (1, .int x0)], [], st_mm s4)) rfl (bi_Tif (fun hc => ?_) (fun hc => ?_))
      · have h := h.1 hc
        obtain ⟨h0q3_83, h⟩ := h
        refine bi_Tr 2 (s' := (86, [(0, .ref 43), (1, .int x0)], [.ref (st_gp s4 4)], st_mm s4)) rfl ?_
        refine bi_Tgr rfl rfl rfl (st_kB0 h0q3_83) (st_pB4 h0q3_83) ?_
        refine bi_Tr 4 (s' := (97, [(0, .ref 43), (1, .int x0)], [.int (st_g s4 1 6), .int x0, .ref ((st_gp s4 4) + 1)], st_mm s4)) rfl ?_
        obtain ⟨hi, h⟩ := h
        refine bi_Tias rfl (st_kB1 h0q3_83) hi ?_
        exact bi_Tww h rfl rfl ⟨rfl, rfl, trivial⟩
      · have h := h.2 hc
        refine bi_Tr 1 (s' := (81, [(0, .ref 43), (1, .int x0)], [.int (0 : Int32)], st_mm s4)) rfl ?_
        exact bi_Tv rfl rfl (Or.inl ⟨_, _, rfl, h⟩)
  · have h := h.2 hc
    refine bi_Tr 5 (s' := (28, [(0, .ref 43), (1, .int x0)], [.int ((st_g s (st_gp s 4) 3) ||| ((1 : Int32) <<< (x0 &&& 31))), .ref (st_gp s 4)], st_mm s1)) rfl ?_
    refine bi_Tpi rfl rfl rfl rfl (st_kB0 h0q0_1) ?_
    refine bi_Tr 2 (s' := (35, [(0, .ref 43), (1, .int x0)], [.ref 1], st_mm (st_p s1 (st_gp s 4) 3 ((st_g s (st_gp s 4) 3) ||| ((1 : Int32) <<< (x0 &&& 31)))))) rfl ?_
    refine bi_TcV (as := [.ref 1]) rfl rfl ?_
    refine cV.mono h (fun s5 h => ?_) (fun _ _ h => h.elim)
    obtain ⟨h0q1_39, h⟩ := h
    refine bi_Tr 2 (s' := (42, [(0, .ref 43), (1, .int x0)], [.ref (st_gp s5 4)], st_mm s5)) rfl ?_
    refine bi_Tgr rfl rfl rfl (st_kB0 h0q1_39) (st_pB4 h0q1_39) ?_
    refine bi_Tr 2 (s' := (47, [(0, .ref 43), (1, .int x0)], [.int (-1 : Int32), .int x0, .ref ((st_gp s5 4) + 1)], st_mm s5)) rfl ?_
    obtain ⟨hi, h⟩ := h
    refine bi_Tias rfl (st_kB1 h0q1_39) hi ?_
    refine bi_Tr 3 (s' := (54, [(0, .ref 43), (1, .int x0)], [.ref 5014, .ref 1], st_mm (st_p s5 ((st_gp s5 4) + 1) (x0).toNatClampNeg (-1 : Int32)))) rfl ?_
    refine bi_TcI (as := [.ref 1, .ref 5014]) rfl rfl ?_
    refine cI.mono h (fun r6 s6 h => ?_) (fun _ _ h => h.elim)
    refine bi_Tr 1 (s' := ((if ¬ r6 = 0 then 98 else 60), [(0, .ref 43), (1, .int x0)], [], st_mm s6)) rfl (bi_Tif (fun hc => ?_) (fun hc => ?_))
    · have h := h.1 hc
      exact bi_Tww h rfl rfl ⟨rfl, rfl, trivial⟩
    · have h := h.2 hc
      obtain ⟨h0q2_65, h⟩ := h
      refine bi_Tr 4 (s' := (68, [(0, .ref 43), (1, .int x0)], [.ref (st_gp s6 4), .ref 1], st_mm s6)) rfl ?_
      refine bi_Tgi (o := 0) rfl rfl rfl (st_kB0 h0q2_65) ?_
      refine bi_Tr 3 (s' := (74, [(0, .ref 43), (1, .int x0)], [.int (3 : Int32), .int ((st_g s6 (st_gp s6 4) 1) - (1 : Int32)), .ref 1], st_mm s6)) rfl ?_
      refine bi_TcI (as := [.ref 1, .int ((st_g s6 (st_gp s6 4) 1) - (1 : Int32)), .int (3 : Int32)]) rfl rfl ?_
      refine cI.mono h (fun r7 s7 h => ?_) (fun _ _ h => h.elim)
      refine bi_Tr 1 (s' := ((if ¬ r7 = 0 then 82 else 80), [(0, .ref 43), (1, .int x0)], [], st_mm s7)) rfl (bi_Tif (fun hc => ?_) (fun hc => ?_))
      · have h := h.1 hc
        obtain ⟨h0q3_83, h⟩ := h
        refine bi_Tr 2 (s' := (86, [(0, .ref 43), (1, .int x0)], [.ref (st_gp s7 4)], st_mm s7)) rfl ?_
        refine bi_Tgr rfl rfl rfl (st_kB0 h0q3_83) (st_pB4 h0q3_83) ?_
        refine bi_Tr 4 (s' := (97, [(0, .ref 43), (1, .int x0)], [.int (st_g s7 1 6), .int x0, .ref ((st_gp s7 4) + 1)], st_mm s7)) rfl ?_
        obtain ⟨hi, h⟩ := h
        refine bi_Tias rfl (st_kB1 h0q3_83) hi ?_
        exact bi_Tww h rfl rfl ⟨rfl, rfl, trivial⟩
      · have h := h.2 hc
        refine bi_Tr 1 (s' := (81, [(0, .ref 43), (1, .int x0)], [.int (0 : Int32)], st_mm s7)) rfl ?_
        exact bi_Tv rfl rfl (Or.inl ⟨_, _, rfl, h⟩)
/-- PolicyRows$TextReader.commandNamed()I -/
theorem en_X9_commandNamed {X : bi_X} {d : Nat} {K : Int32 → bi_St → Prop} {E : Nat → bi_St → Prop} {s : bi_St}   (h : cI X d 96 [.ref 1, .ref 5015] s (fun (r1 : Int32) (s1 : bi_St) => ((r1 = 0) → cI X d 96 [.ref 1, .ref 5016] s1 (fun (r2 : Int32) (s2 : bi_St) => ((r2 = 0) → cI X d 96 [.ref 1, .ref 5017] s2 (fun (r3 : Int32) (s3 : bi_St) => ((r3 = 0) → cI X d 96 [.ref 1, .ref 5018] s3 (fun (r4 : Int32) (s4 : bi_St) => ((r4 = 0) → cI X d 96 [.ref 1, .ref 5019] s4 (fun (r5 : Int32) (s5 : bi_St) => ((r5 = 0) → K (-1 : Int32) s5) ∧ (¬ (r5 = 0) → K (4 : Int32) s5)) (fun _ _ => False)) ∧ (¬ (r4 = 0) → K (3 : Int32) s4)) (fun _ _ => False)) ∧ (¬ (r3 = 0) → K (2 : Int32) s3)) (fun _ _ => False)) ∧ (¬ (r2 = 0) → K (1 : Int32) s2)) (fun _ _ => False)) ∧ (¬ (r1 = 0) → K (0 : Int32) s1)) (fun _ _ => False)) : cI X (d + 1) 110 [.ref 43] s K E := by
  show bi_T _ _ _ _ _
  refine bi_Tr 3 (s' := (6, [(0, .ref 43)], [.ref 5015, .ref 1], st_mm s)) rfl ?_
  refine bi_TcI (as := [.ref 1, .ref 5015]) rfl rfl ?_
  refine cI.mono h (fun r1 s1 h => ?_) (fun _ _ h => h.elim)
  refine bi_Tr 1 (s' := ((if r1 = 0 then 14 else 12), [(0, .ref 43)], [], st_mm s1)) rfl (bi_Tif (fun hc => ?_) (fun hc => ?_))
  · have h := h.1 hc
    refine bi_Tr 3 (s' := (20, [(0, .ref 43)], [.ref 5016, .ref 1], st_mm s1)) rfl ?_
    refine bi_TcI (as := [.ref 1, .ref 5016]) rfl rfl ?_
    refine cI.mono h (fun r2 s2 h => ?_) (fun _ _ h => h.elim)
    refine bi_Tr 1 (s' := ((if r2 = 0 then 28 else 26), [(0, .ref 43)], [], st_mm s2)) rfl (bi_Tif (fun hc => ?_) (fun hc => ?_))
    · have h := h.1 hc
      refine bi_Tr 3 (s' := (34, [(0, .ref 43)], [.ref 5017, .ref 1], st_mm s2)) rfl ?_
      refine bi_TcI (as := [.ref 1, .ref 5017]) rfl rfl ?_
      refine cI.mono h (fun r3 s3 h => ?_) (fun _ _ h => h.elim)
      refine bi_Tr 1 (s' := ((if r3 = 0 then 42 else 40), [(0, .ref 43)], [], st_mm s3)) rfl (bi_Tif (fun hc => ?_) (fun hc => ?_))
      · have h := h.1 hc
        refine bi_Tr 3 (s' := (48, [(0, .ref 43)], [.ref 5018, .ref 1], st_mm s3)) rfl ?_
        refine bi_TcI (as := [.ref 1, .ref 5018]) rfl rfl ?_
        refine cI.mono h (fun r4 s4 h => ?_) (fun _ _ h => h.elim)
        refine bi_Tr 1 (s' := ((if r4 = 0 then 56 else 54), [(0, .ref 43)], [], st_mm s4)) rfl (bi_Tif (fun hc => ?_) (fun hc => ?_))
        · have h := h.1 hc
          refine bi_Tr 3 (s' := (62, [(0, .ref 43)], [.ref 5019, .ref 1], st_mm s4)) rfl ?_
          refine bi_TcI (as := [.ref 1, .ref 5019]) rfl rfl ?_
          refine cI.mono h (fun r5 s5 h => ?_) (fun _ _ h => h.elim)
          refine bi_Tr 1 (s' := ((if r5 = 0 then 72 else 68), [(0, .ref 43)], [], st_mm s5)) rfl (bi_Tif (fun hc => ?_) (fun hc => ?_))
          · have h := h.1 hc
            refine bi_Tr 1 (s' := (73, [(0, .ref 43)], [.int (-1 : Int32)], st_mm s5)) rfl ?_
            exact bi_Tv rfl rfl (Or.inl ⟨_, _, rfl, h⟩)
          · have h := h.2 hc
            refine bi_Tr 2 (s' := (73, [(0, .ref 43)], [.int (4 : Int32)], st_mm s5)) rfl ?_
            exact bi_Tv rfl rfl (Or.inl ⟨_, _, rfl, h⟩)
        · have h := h.2 hc
          refine bi_Tr 1 (s' := (55, [(0, .ref 43)], [.int (3 : Int32)], st_mm s4)) rfl ?_
          exact bi_Tv rfl rfl (Or.inl ⟨_, _, rfl, h⟩)
      · have h := h.2 hc
        refine bi_Tr 1 (s' := (41, [(0, .ref 43)], [.int (2 : Int32)], st_mm s3)) rfl ?_
        exact bi_Tv rfl rfl (Or.inl ⟨_, _, rfl, h⟩)
    · have h := h.2 hc
      refine bi_Tr 1 (s' := (27, [(0, .ref 43)], [.int (1 : Int32)], st_mm s2)) rfl ?_
      exact bi_Tv rfl rfl (Or.inl ⟨_, _, rfl, h⟩)
  · have h := h.2 hc
    refine bi_Tr 1 (s' := (13, [(0, .ref 43)], [.int (0 : Int32)], st_mm s1)) rfl ?_
    exact bi_Tv rfl rfl (Or.inl ⟨_, _, rfl, h⟩)
def at_X9_readView_73 (X : bi_X) (d : Nat) (K : Int32 → bi_St → Prop) (E : Nat → bi_St → Prop) (s : bi_St) (y1 : Int32) : Prop := bi_T X d 111 (73, [(0, .ref 43), (1, .int y1)], [], st_mm s) (st_RI K E)
theorem go_X9_readView_73 {X : bi_X} {d : Nat} {K : Int32 → bi_St → Prop} {E : Nat → bi_St → Prop}  {s : bi_St} {y1 : Int32}  (h : cI X d 113 [.ref 43, .int y1] s (fun (r6 : Int32) (s6 : bi_St) => ((¬ r6 = 0) → cI X d 96 [.ref 1, .ref 5021] s6 (fun (r7 : Int32) (s7 : bi_St) => ((¬ r7 = 0) → cV X d 94 [.ref 1] s7 (fun (s8 : bi_St) => st_isB (st_gp s8 4) ∧ (st_isB (st_gp s8 4) ∧ (st_isB (st_gp s8 4) ∧ (cV X d 49 [.ref 44, .ref ((st_gp s8 4) + 8), .int (st_g s8 (st_gp s8 4) 0), .int (st_g s8 (st_gp s8 4) 1)] s8 (fun (s9 : bi_St) => st_isB (st_gp s9 4) ∧ (cI X d 50 [.ref 44] s9 (fun (r10 : Int32) (s10 : bi_St) => bi_in y1 3 = true ∧ (st_isB (st_gp (st_p s10 ((st_gp s9 4) + 7) (y1).toNatClampNeg r10) 4) ∧ (st_isB (st_gp (st_p (st_p s10 ((st_gp s9 4) + 7) (y1).toNatClampNeg r10) (st_gp (st_p s10 ((st_gp s9 4) + 7) (y1).toNatClampNeg r10) 4) 8 ((st_g (st_p s10 ((st_gp s9 4) + 7) (y1).toNatClampNeg r10) (st_gp (st_p s10 ((st_gp s9 4) + 7) (y1).toNatClampNeg r10) 4) 8) + (1 : Int32))) 4) ∧ (bi_in y1 3 = true ∧ ((((st_g (st_p (st_p s10 ((st_gp s9 4) + 7) (y1).toNatClampNeg r10) (st_gp (st_p s10 ((st_gp s9 4) + 7) (y1).toNatClampNeg r10) 4) 8 ((st_g (st_p s10 ((st_gp s9 4) + 7) (y1).toNatClampNeg r10) (st_gp (st_p s10 ((st_gp s9 4) + 7) (y1).toNatClampNeg r10) 4) 8) + (1 : Int32))) ((st_gp (st_p (st_p s10 ((st_gp s9 4) + 7) (y1).toNatClampNeg r10) (st_gp (st_p s10 ((st_gp s9 4) + 7) (y1).toNatClampNeg r10) 4) 8 ((st_g (st_p s10 ((st_gp s9 4) + 7) (y1).toNatClampNeg r10) (st_gp (st_p s10 ((st_gp s9 4) + 7) (y1).toNatClampNeg r10) 4) 8) + (1 : Int32))) 4) + 7) (y1).toNatClampNeg) = (-1 : Int32)) → K (0 : Int32) (st_p (st_p s10 ((st_gp s9 4) + 7) (y1).toNatClampNeg r10) (st_gp (st_p s10 ((st_gp s9 4) + 7) (y1).toNatClampNeg r10) 4) 8 ((st_g (st_p s10 ((st_gp s9 4) + 7) (y1).toNatClampNeg r10) (st_gp (st_p s10 ((st_gp s9 4) + 7) (y1).toNatClampNeg r10) 4) 8) + (1 : Int32)))) ∧ (¬ ((st_g (st_p (st_p s10 ((st_gp s9 4) + 7) (y1).toNatClampNeg r10) (st_gp (st_p s10 ((st_gp s9 4) + 7) (y1).toNatClampNeg r10) 4) 8 ((st_g (st_p s10 ((st_gp s9 4) + 7) (y1).toNatClampNeg r10) (st_gp (st_p s10 ((st_gp s9 4) + 7) (y1).toNatClampNeg r10) 4) 8) + (1 : Int32))) ((st_gp (st_p (st_p s10 ((st_gp s9 4) + 7) (y1).toNatClampNeg r10) (st_gp (st_p s10 ((st_gp s9 4) + 7) (y1).toNatClampNeg r10) 4) 8 ((st_g (st_p s10 ((st_gp s9 4) + 7) (y1).toNatClampNeg r10) (st_gp (st_p s10 ((st_gp s9 4) + 7) (y1).toNatClampNeg r10) 4) 8) + (1 : Int32))) 4) + 7) (y1).toNatClampNeg) = (-1 : Int32)) → K (1 : Int32) (st_p (st_p s10 ((st_gp s9 4) + 7) (y1).toNatClampNeg r10) (st_gp (st_p s10 ((st_gp s9 4) + 7) (y1).toNatClampNeg r10) 4) 8 ((st_g (st_p s10 ((st_gp s9 4) + 7) (y1).toNatClampNeg r10) (st_gp (st_p s10 ((st_gp s9 4) + 7) (y1).toNatClampNeg r10) 4) 8) + (1 : Int32))))))))) (fun _ _ => False))) (fun _ _ => False))))) (fun _ _ => False)) ∧ (¬ (¬ r7 = 0) → cI X d 99 [.ref 1, .int (1 : Int32)] s7 (fun (r11 : Int32) (s11 : bi_St) => bi_bool r11 = true ∧ (K r11 s11)) (fun _ _ => False))) (fun _ _ => False)) ∧ (¬ (¬ r6 = 0) → K (0 : Int32) s6)) (fun _ _ => False)) : at_X9_readView_73 X (d + 1) K E s y1 := by
  show bi_T _ _ _ _ _
  refine bi_Tr 2 (s' := (75, [(0, .ref 43), (1, .int y1)], [.int y1, .ref 43], st_mm s)) rfl ?_
  refine bi_TcI (as := [.ref 43, .int y1]) rfl rfl ?_
  refine cI.mono h (fun r6 s6 h => ?_) (fun _ _ h => h.elim)
  refine bi_Tr 1 (s' := ((if ¬ r6 = 0 then 83 else 81), [(0, .ref 43), (1, .int y1)], [], st_mm s6)) rfl (bi_Tif (fun hc => ?_) (fun hc => ?_))
  · have h := h.1 hc
    refine bi_Tr 3 (s' := (89, [(0, .ref 43), (1, .int y1)], [.ref 5021, .ref 1], st_mm s6)) rfl ?_
    refine bi_TcI (as := [.ref 1, .ref 5021]) rfl rfl ?_
    refine cI.mono h (fun r7 s7 h => ?_) (fun _ _ h => h.elim)
    refine bi_Tr 1 (s' := ((if ¬ r7 = 0 then 104 else 95), [(0, .ref 43), (1, .int y1)], [], st_mm s7)) rfl (bi_Tif (fun hc => ?_) (fun hc => ?_))
    · have h := h.1 hc
      refine bi_Tr 2 (s' := (108, [(0, .ref 43), (1, .int y1)], [.ref 1], st_mm s7)) rfl ?_
      refine bi_TcV (as := [.ref 1]) rfl rfl ?_
      refine cV.mono h (fun s8 h => ?_) (fun _ _ h => h.elim)
      obtain ⟨h0q2_116, h⟩ := h
      refine bi_Tr 4 (s' := (119, [(0, .ref 43), (1, .int y1)], [.ref (st_gp s8 4), .ref 44], st_mm s8)) rfl ?_
      refine bi_Tgr rfl rfl rfl (st_kB0 h0q2_116) (st_pB13 h0q2_116) ?_
      obtain ⟨h23q2_123, h⟩ := h
      refine bi_Tr 2 (s' := (126, [(0, .ref 43), (1, .int y1)], [.ref (st_gp s8 4), .ref ((st_gp s8 4) + 8), .ref 44], st_mm s8)) rfl ?_
      refine bi_Tgi (o := 0) rfl rfl rfl (st_kB0 h23q2_123) ?_
      obtain ⟨h46q2_130, h⟩ := h
      refine bi_Tr 2 (s' := (133, [(0, .ref 43), (1, .int y1)], [.ref (st_gp s8 4), .int (st_g s8 (st_gp s8 4) 0), .ref ((st_gp s8 4) + 8), .ref 44], st_mm s8)) rfl ?_
      refine bi_Tgi (o := 0) rfl rfl rfl (st_kB0 h46q2_130) ?_
      refine bi_TcV (as := [.ref 44, .ref ((st_gp s8 4) + 8), .int (st_g s8 (st_gp s8 4) 0), .int (st_g s8 (st_gp s8 4) 1)]) rfl rfl ?_
      refine cV.mono h (fun s9 h => ?_) (fun _ _ h => h.elim)
      obtain ⟨h0q2_140, h⟩ := h
      refine bi_Tr 2 (s' := (143, [(0, .ref 43), (1, .int y1)], [.ref (st_gp s9 4)], st_mm s9)) rfl ?_
      refine bi_Tgr rfl rfl rfl (st_kB0 h0q2_140) (st_pB12 h0q2_140) ?_
      refine bi_Tr 3 (s' := (151, [(0, .ref 43), (1, .int y1)], [.ref 44, .int y1, .ref ((st_gp s9 4) + 7)], st_mm s9)) rfl ?_
      refine bi_TcI (as := [.ref 44]) rfl rfl ?_
      refine cI.mono h (fun r10 s10 h => ?_) (fun _ _ h => h.elim)
      obtain ⟨hi, h⟩ := h
      refine bi_Tias rfl (st_kB7 h0q2_140) hi ?_
      obtain ⟨h21q2_156, h⟩ := h
      refine bi_Tr 3 (s' := (160, [(0, .ref 43), (1, .int y1)], [.ref (st_gp (st_p s10 ((st_gp s9 4) + 7) (y1).toNatClampNeg r10) 4), .ref (st_gp (st_p s10 ((st_gp s9 4) + 7) (y1).toNatClampNeg r10) 4)], st_mm (st_p s10 ((st_gp s9 4) + 7) (y1).toNatClampNeg r10))) rfl ?_
      refine bi_Tgi (o := 0) rfl rfl rfl (st_kB0 h21q2_156) ?_
      refine bi_Tr 2 (s' := (165, [(0, .ref 43), (1, .int y1)], [.int ((st_g (st_p s10 ((st_gp s9 4) + 7) (y1).toNatClampNeg r10) (st_gp (st_p s10 ((st_gp s9 4) + 7) (y1).toNatClampNeg r10) 4) 8) + (1 : Int32)), .ref (st_gp (st_p s10 ((st_gp s9 4) + 7) (y1).toNatClampNeg r10) 4)], st_mm (st_p s10 ((st_gp s9 4) + 7) (y1).toNatClampNeg r10))) rfl ?_
      refine bi_Tpi rfl rfl rfl rfl (st_kB0 h21q2_156) ?_
      obtain ⟨h94q2_169, h⟩ := h
      refine bi_Tr 2 (s' := (172, [(0, .ref 43), (1, .int y1)], [.ref (st_gp (st_p (st_p s10 ((st_gp s9 4) + 7) (y1).toNatClampNeg r10) (st_gp (st_p s10 ((st_gp s9 4) + 7) (y1).toNatClampNeg r10) 4) 8 ((st_g (st_p s10 ((st_gp s9 4) + 7) (y1).toNatClampNeg r10) (st_gp (st_p s10 ((st_gp s9 4) + 7) (y1).toNatClampNeg r10) 4) 8) + (1 : Int32))) 4)], st_mm (st_p (st_p s10 ((st_gp s9 4) + 7) (y1).toNatClampNeg r10) (st_gp (st_p s10 ((st_gp s9 4) + 7) (y1).toNatClampNeg r10) 4) 8 ((st_g (st_p s10 ((st_gp s9 4) + 7) (y1).toNatClampNeg r10) (st_gp (st_p s10 ((st_gp s9 4) + 7) (y1).toNatClampNeg r10) 4) 8) + (1 : Int32))))) rfl ?_
      refine bi_Tgr rfl rfl rfl (st_kB0 h94q2_169) (st_pB12 h94q2_169) ?_
      refine bi_Tr 1 (s' := (176, [(0, .ref 43), (1, .int y1)], [.int y1, .ref ((st_gp (st_p (st_p s10 ((st_gp s9 4) + 7) (y1).toNatClampNeg r10) (st_gp (st_p s10 ((st_gp s9 4) + 7) (y1).toNatClampNeg r10) 4) 8 ((st_g (st_p s10 ((st_gp s9 4) + 7) (y1).toNatClampNeg r10) (st_gp (st_p s10 ((st_gp s9 4) + 7) (y1).toNatClampNeg r10) 4) 8) + (1 : Int32))) 4) + 7)], st_mm (st_p (st_p s10 ((st_gp s9 4) + 7) (y1).toNatClampNeg r10) (st_gp (st_p s10 ((st_gp s9 4) + 7) (y1).toNatClampNeg r10) 4) 8 ((st_g (st_p s10 ((st_gp s9 4) + 7) (y1).toNatClampNeg r10) (st_gp (st_p s10 ((st_gp s9 4) + 7) (y1).toNatClampNeg r10) 4) 8) + (1 : Int32))))) rfl ?_
      obtain ⟨hi, h⟩ := h
      refine bi_Tial rfl (by have := h94q2_169; simp only [st_isB] at this; rcases this with h | h <;> rw [h] <;> rfl) (st_kB7 h94q2_169) hi ?_
      refine bi_Tr 2 (s' := ((if (st_g (st_p (st_p s10 ((st_gp s9 4) + 7) (y1).toNatClampNeg r10) (st_gp (st_p s10 ((st_gp s9 4) + 7) (y1).toNatClampNeg r10) 4) 8 ((st_g (st_p s10 ((st_gp s9 4) + 7) (y1).toNatClampNeg r10) (st_gp (st_p s10 ((st_gp s9 4) + 7) (y1).toNatClampNeg r10) 4) 8) + (1 : Int32))) ((st_gp (st_p (st_p s10 ((st_gp s9 4) + 7) (y1).toNatClampNeg r10) (st_gp (st_p s10 ((st_gp s9 4) + 7) (y1).toNatClampNeg r10) 4) 8 ((st_g (st_p s10 ((st_gp s9 4) + 7) (y1).toNatClampNeg r10) (st_gp (st_p s10 ((st_gp s9 4) + 7) (y1).toNatClampNeg r10) 4) 8) + (1 : Int32))) 4) + 7) (y1).toNatClampNeg) = (-1 : Int32) then 185 else 181), [(0, .ref 43), (1, .int y1)], [], st_mm (st_p (st_p s10 ((st_gp s9 4) + 7) (y1).toNatClampNeg r10) (st_gp (st_p s10 ((st_gp s9 4) + 7) (y1).toNatClampNeg r10) 4) 8 ((st_g (st_p s10 ((st_gp s9 4) + 7) (y1).toNatClampNeg r10) (st_gp (st_p s10 ((st_gp s9 4) + 7) (y1).toNatClampNeg r10) 4) 8) + (1 : Int32))))) rfl (bi_Tif (fun hc => ?_) (fun hc => ?_))
      · have h := h.1 hc
        refine bi_Tr 1 (s' := (186, [(0, .ref 43), (1, .int y1)], [.int (0 : Int32)], st_mm (st_p (st_p s10 ((st_gp s9 4) + 7) (y1).toNatClampNeg r10) (st_gp (st_p s10 ((st_gp s9 4) + 7) (y1).toNatClampNeg r10) 4) 8 ((st_g (st_p s10 ((st_gp s9 4) + 7) (y1).toNatClampNeg r10) (st_gp (st_p s10 ((st_gp s9 4) + 7) (y1).toNatClampNeg r10) 4) 8) + (1 : Int32))))) rfl ?_
        exact bi_Tv rfl rfl (Or.inl ⟨_, _, rfl, h⟩)
      · have h := h.2 hc
        refine bi_Tr 2 (s' := (186, [(0, .ref 43), (1, .int y1)], [.int (1 : Int32)], st_mm (st_p (st_p s10 ((st_gp s9 4) + 7) (y1).toNatClampNeg r10) (st_gp (st_p s10 ((st_gp s9 4) + 7) (y1).toNatClampNeg r10) 4) 8 ((st_g (st_p s10 ((st_gp s9 4) + 7) (y1).toNatClampNeg r10) (st_gp (st_p s10 ((st_gp s9 4) + 7) (y1).toNatClampNeg r10) 4) 8) + (1 : Int32))))) rfl ?_
        exact bi_Tv rfl rfl (Or.inl ⟨_, _, rfl, h⟩)
    · have h := h.2 hc
      refine bi_Tr 3 (s' := (100, [(0, .ref 43), (1, .int y1)], [.int (1 : Int32), .ref 1], st_mm s7)) rfl ?_
      refine bi_TcI (as := [.ref 1, .int (1 : Int32)]) rfl rfl ?_
      refine cI.mono h (fun r11 s11 h => ?_) (fun _ _ h => h.elim)
      obtain ⟨hi, h⟩ := h
      exact bi_Tv rfl hi (Or.inl ⟨_, _, rfl, h⟩)
  · have h := h.2 hc
    refine bi_Tr 1 (s' := (82, [(0, .ref 43), (1, .int y1)], [.int (0 : Int32)], st_mm s6)) rfl ?_
    exact bi_Tv rfl rfl (Or.inl ⟨_, _, rfl, h⟩)
/-- PolicyRows$TextReader.readView()Z -/
theorem en_X9_readView {X : bi_X} {d : Nat} {K : Int32 → bi_St → Prop} {E : Nat → bi_St → Prop} {s : bi_St}   (h : st_isB (st_gp s 4) ∧ ((((st_g s (st_gp s 4) 8) < (3 : Int32)) → cV X d 94 [.ref 1] s (fun (s1 : bi_St) => cI X d 112 [.ref 43, .int (st_g s (st_gp s 4) 8)] s1 (fun (r2 : Int32) (s2 : bi_St) => ((¬ r2 = 0) → cI X d 96 [.ref 1, .ref 5020] s2 (fun (r3 : Int32) (s3 : bi_St) => ((r3 = 0) → at_X9_readView_73 X (d + 1) K E s3 ((st_g s (st_gp s 4) 8))) ∧ (¬ (r3 = 0) → st_isB (st_gp s3 4) ∧ (cV X d 94 [.ref 1] (st_p s3 (st_gp s3 4) 9 ((st_g s3 (st_gp s3 4) 9) ||| ((1 : Int32) <<< ((st_g s (st_gp s 4) 8) &&& 31)))) (fun (s4 : bi_St) => at_X9_readView_73 X (d + 1) K E s4 ((st_g s (st_gp s 4) 8))) (fun _ _ => False)))) (fun _ _ => False)) ∧ (¬ (¬ r2 = 0) → K (0 : Int32) s2)) (fun _ _ => False)) (fun _ _ => False)) ∧ (¬ ((st_g s (st_gp s 4) 8) < (3 : Int32)) → cI X d 99 [.ref 1, .int (2 : Int32)] s (fun (r5 : Int32) (s5 : bi_St) => bi_bool r5 = true ∧ (K r5 s5)) (fun _ _ => False)))) : cI X (d + 1) 111 [.ref 43] s K E := by
  show bi_T _ _ _ _ _
  obtain ⟨h0q0_1, h⟩ := h
  refine bi_Tr 2 (s' := (4, [(0, .ref 43)], [.ref (st_gp s 4)], st_mm s)) rfl ?_
  refine bi_Tgi (o := 0) rfl rfl rfl (st_kB0 h0q0_1) ?_
  refine bi_Tr 4 (s' := ((if (st_g s (st_gp s 4) 8) < (3 : Int32) then 22 else 13), [(1, .int (st_g s (st_gp s 4) 8)), (0, .ref 43)], [], st_mm s)) rfl (bi_Tif (fun hc => ?_) (fun hc => ?_))
  · have h := h.1 hc
    refine bi_Tr 2 (s' := (26, [(1, .int (st_g s (st_gp s 4) 8)), (0, .ref 43)], [.ref 1], st_mm s)) rfl ?_
    refine bi_TcV (as := [.ref 1]) rfl rfl ?_
    refine cV.mono h (fun s1 h => ?_) (fun _ _ h => h.elim)
    refine bi_Tr 2 (s' := (31, [(1, .int (st_g s (st_gp s 4) 8)), (0, .ref 43)], [.int (st_g s (st_gp s 4) 8), .ref 43], st_mm s1)) rfl ?_
    refine bi_TcI (as := [.ref 43, .int (st_g s (st_gp s 4) 8)]) rfl rfl ?_
    refine cI.mono h (fun r2 s2 h => ?_) (fun _ _ h => h.elim)
    refine bi_Tr 1 (s' := ((if ¬ r2 = 0 then 39 else 37), [(1, .int (st_g s (st_gp s 4) 8)), (0, .ref 43)], [], st_mm s2)) rfl (bi_Tif (fun hc => ?_) (fun hc => ?_))
    · have h := h.1 hc
      refine bi_Tr 3 (s' := (45, [(1, .int (st_g s (st_gp s 4) 8)), (0, .ref 43)], [.ref 5020, .ref 1], st_mm s2)) rfl ?_
      refine bi_TcI (as := [.ref 1, .ref 5020]) rfl rfl ?_
      refine cI.mono h (fun r3 s3 h => ?_) (fun _ _ h => h.elim)
      refine bi_Tr 1 (s' := ((if r3 = 0 then 73 else 51), [(1, .int (st_g s (st_gp s 4) 8)), (0, .ref 43)], [], st_mm s3)) rfl (bi_Tif (fun hc => ?_) (fun hc => ?_))
      · have h := h.1 hc
        exact bi_Tww h rfl rfl ⟨rfl, rfl, trivial⟩
      · have h := h.2 hc
        obtain ⟨h0q3_52, h⟩ := h
        refine bi_Tr 3 (s' := (56, [(1, .int (st_g s (st_gp s 4) 8)), (0, .ref 43)], [.ref (st_gp s3 4), .ref (st_gp s3 4)], st_mm s3)) rfl ?_
        refine bi_Tgi (o := 0) rfl rfl rfl (st_kB0 h0q3_52) ?_
        refine bi_Tr 4 (s' := (63, [(1, .int (st_g s (st_gp s 4) 8)), (0, .ref 43)], [.int ((st_g s3 (st_gp s3 4) 9) ||| ((1 : Int32) <<< ((st_g s (st_gp s 4) 8) &&& 31))), .ref (st_gp s3 4)], st_mm s3)) rfl ?_
        refine bi_Tpi rfl rfl rfl rfl (st_kB0 h0q3_52) ?_
        refine bi_Tr 2 (s' := (70, [(1, .int (st_g s (st_gp s 4) 8)), (0, .ref 43)], [.ref 1], st_mm (st_p s3 (st_gp s3 4) 9 ((st_g s3 (st_gp s3 4) 9) ||| ((1 : Int32) <<< ((st_g s (st_gp s 4) 8) &&& 31)))))) rfl ?_
        refine bi_TcV (as := [.ref 1]) rfl rfl ?_
        refine cV.mono h (fun s4 h => ?_) (fun _ _ h => h.elim)
        exact bi_Tww h rfl rfl ⟨rfl, rfl, trivial⟩
    · have h := h.2 hc
      refine bi_Tr 1 (s' := (38, [(1, .int (st_g s (st_gp s 4) 8)), (0, .ref 43)], [.int (0 : Int32)], st_mm s2)) rfl ?_
      exact bi_Tv rfl rfl (Or.inl ⟨_, _, rfl, h⟩)
  · have h := h.2 hc
    refine bi_Tr 3 (s' := (18, [(1, .int (st_g s (st_gp s 4) 8)), (0, .ref 43)], [.int (2 : Int32), .ref 1], st_mm s)) rfl ?_
    refine bi_TcI (as := [.ref 1, .int (2 : Int32)]) rfl rfl ?_
    refine cI.mono h (fun r5 s5 h => ?_) (fun _ _ h => h.elim)
    obtain ⟨hi, h⟩ := h
    exact bi_Tv rfl hi (Or.inl ⟨_, _, rfl, h⟩)
/-- PolicyRows$TextReader.readOwner(I)Z -/
theorem en_X9_readOwner {X : bi_X} {d : Nat} {K : Int32 → bi_St → Prop} {E : Nat → bi_St → Prop} {s : bi_St} {x0 : Int32}  (h : st_isB (st_gp s 4) ∧ (bi_in x0 3 = true ∧ (cI X d 96 [.ref 1, .ref 5022] (st_p s ((st_gp s 4) + 5) (x0).toNatClampNeg (-1 : Int32)) (fun (r1 : Int32) (s1 : bi_St) => ((r1 = 0) → cI X d 96 [.ref 1, .ref 5023] s1 (fun (r2 : Int32) (s2 : bi_St) => ((¬ r2 = 0) → cV X d 94 [.ref 1] s2 (fun (s3 : bi_St) => st_isB (st_gp s3 4) ∧ (cI X d 101 [.ref 1, .int ((st_g s3 (st_gp s3 4) 1) - (1 : Int32)), .int (3 : Int32)] s3 (fun (r4 : Int32) (s4 : bi_St) => ((¬ r4 = 0) → st_isB (st_gp s4 4) ∧ (bi_in x0 3 = true ∧ (cV X d 94 [.ref 1] (st_p s4 ((st_gp s4 4) + 5) (x0).toNatClampNeg (st_g s4 1 6)) (fun (s5 : bi_St) => K (1 : Int32) s5) (fun _ _ => False)))) ∧ (¬ (¬ r4 = 0) → K (0 : Int32) s4)) (fun _ _ => False))) (fun _ _ => False)) ∧ (¬ (¬ r2 = 0) → cI X d 99 [.ref 1, .int (1 : Int32)] s2 (fun (r6 : Int32) (s6 : bi_St) => bi_bool r6 = true ∧ (K r6 s6)) (fun _ _ => False))) (fun _ _ => False)) ∧ (¬ (r1 = 0) → cV X d 94 [.ref 1] s1 (fun (s7 : bi_St) => K (1 : Int32) s7) (fun _ _ => False))) (fun _ _ => False)))) : cI X (d + 1) 112 [.ref 43, .int x0] s K E := by
  show bi_T _ _ _ _ _
  obtain ⟨h0q0_1, h⟩ := h
  refine bi_Tr 2 (s' := (4, [(0, .ref 43), (1, .int x0)], [.ref (st_gp s 4)], st_mm s)) rfl ?_
  refine bi_Tgr rfl rfl rfl (st_kB0 h0q0_1) (st_pB10 h0q0_1) ?_
  refine bi_Tr 2 (s' := (9, [(0, .ref 43), (1, .int x0)], [.int (-1 : Int32), .int x0, .ref ((st_gp s 4) + 5)], st_mm s)) rfl ?_
  obtain ⟨hi, h⟩ := h
  refine bi_Tias rfl (st_kB5 h0q0_1) hi ?_
  refine bi_Tr 3 (s' := (16, [(0, .ref 43), (1, .int x0)], [.ref 5022, .ref 1], st_mm (st_p s ((st_gp s 4) + 5) (x0).toNatClampNeg (-1 : Int32)))) rfl ?_
  refine bi_TcI (as := [.ref 1, .ref 5022]) rfl rfl ?_
  refine cI.mono h (fun r1 s1 h => ?_) (fun _ _ h => h.elim)
  refine bi_Tr 1 (s' := ((if r1 = 0 then 31 else 22), [(0, .ref 43), (1, .int x0)], [], st_mm s1)) rfl (bi_Tif (fun hc => ?_) (fun hc => ?_))
  · have h := h.1 hc
    refine bi_Tr 3 (s' := (37, [(0, .ref 43), (1, .int x0)], [.ref 5023, .ref 1], st_mm s1)) rfl ?_
    refine bi_TcI (as := [.ref 1, .ref 5023]) rfl rfl ?_
    refine cI.mono h (fun r2 s2 h => ?_) (fun _ _ h => h.elim)
    refine bi_Tr 1 (s' := ((if ¬ r2 = 0 then 52 else 43), [(0, .ref 43), (1, .int x0)], [], st_mm s2)) rfl (bi_Tif (fun hc => ?_) (fun hc => ?_))
    · have h := h.1 hc
      refine bi_Tr 2 (s' := (56, [(0, .ref 43), (1, .int x0)], [.ref 1], st_mm s2)) rfl ?_
      refine bi_TcV (as := [.ref 1]) rfl rfl ?_
      refine cV.mono h (fun s3 h => ?_) (fun _ _ h => h.elim)
      obtain ⟨h0q2_64, h⟩ := h
      refine bi_Tr 4 (s' := (67, [(0, .ref 43), (1, .int x0)], [.ref (st_gp s3 4), .ref 1], st_mm s3)) rfl ?_
      refine bi_Tgi (o := 0) rfl rfl rfl (st_kB0 h0q2_64) ?_
      refine bi_Tr 3 (s' := (73, [(0, .ref 43), (1, .int x0)], [.int (3 : Int32), .int ((st_g s3 (st_gp s3 4) 1) - (1 : Int32)), .ref 1], st_mm s3)) rfl ?_
      refine bi_TcI (as := [.ref 1, .int ((st_g s3 (st_gp s3 4) 1) - (1 : Int32)), .int (3 : Int32)]) rfl rfl ?_
      refine cI.mono h (fun r4 s4 h => ?_) (fun _ _ h => h.elim)
      refine bi_Tr 1 (s' := ((if ¬ r4 = 0 then 81 else 79), [(0, .ref 43), (1, .int x0)], [], st_mm s4)) rfl (bi_Tif (fun hc => ?_) (fun hc => ?_))
      · have h := h.1 hc
        obtain ⟨h0q3_82, h⟩ := h
        refine bi_Tr 2 (s' := (85, [(0, .ref 43), (1, .int x0)], [.ref (st_gp s4 4)], st_mm s4)) rfl ?_
        refine bi_Tgr rfl rfl rfl (st_kB0 h0q3_82) (st_pB10 h0q3_82) ?_
        refine bi_Tr 4 (s' := (96, [(0, .ref 43), (1, .int x0)], [.int (st_g s4 1 6), .int x0, .ref ((st_gp s4 4) + 5)], st_mm s4)) rfl ?_
        obtain ⟨hi, h⟩ := h
        refine bi_Tias rfl (st_kB5 h0q3_82) hi ?_
        refine bi_Tr 2 (s' := (101, [(0, .ref 43), (1, .int x0)], [.ref 1], st_mm (st_p s4 ((st_gp s4 4) + 5) (x0).toNatClampNeg (st_g s4 1 6)))) rfl ?_
        refine bi_TcV (as := [.ref 1]) rfl rfl ?_
        refine cV.mono h (fun s5 h => ?_) (fun _ _ h => h.elim)
        refine bi_Tr 1 (s' := (105, [(0, .ref 43), (1, .int x0)], [.int (1 : Int32)], st_mm s5)) rfl ?_
        exact bi_Tv rfl rfl (Or.inl ⟨_, _, rfl, h⟩)
      · have h := h.2 hc
        refine bi_Tr 1 (s' := (80, [(0, .ref 43), (1, .int x0)], [.int (0 : Int32)], st_mm s4)) rfl ?_
        exact bi_Tv rfl rfl (Or.inl ⟨_, _, rfl, h⟩)
    · have h := h.2 hc
      refine bi_Tr 3 (s' := (48, [(0, .ref 43), (1, .int x0)], [.int (1 : Int32), .ref 1], st_mm s2)) rfl ?_
      refine bi_TcI (as := [.ref 1, .int (1 : Int32)]) rfl rfl ?_
      refine cI.mono h (fun r6 s6 h => ?_) (fun _ _ h => h.elim)
      obtain ⟨hi, h⟩ := h
      exact bi_Tv rfl hi (Or.inl ⟨_, _, rfl, h⟩)
  · have h := h.2 hc
    refine bi_Tr 2 (s' := (26, [(0, .ref 43), (1, .int x0)], [.ref 1], st_mm s1)) rfl ?_
    refine bi_TcV (as := [.ref 1]) rfl rfl ?_
    refine cV.mono h (fun s7 h => ?_) (fun _ _ h => h.elim)
    refine bi_Tr 1 (s' := (30, [(0, .ref 43), (1, .int x0)], [.int (1 : Int32)], st_mm s7)) rfl ?_
    exact bi_Tv rfl rfl (Or.inl ⟨_, _, rfl, h⟩)
/-- PolicyRows$TextReader.readOf(I)Z -/
theorem en_X9_readOf {X : bi_X} {d : Nat} {K : Int32 → bi_St → Prop} {E : Nat → bi_St → Prop} {s : bi_St} {x0 : Int32}  (h : st_isB (st_gp s 4) ∧ (bi_in x0 3 = true ∧ (cI X d 96 [.ref 1, .ref 5024] (st_p s ((st_gp s 4) + 6) (x0).toNatClampNeg (-1 : Int32)) (fun (r1 : Int32) (s1 : bi_St) => ((¬ r1 = 0) → cV X d 94 [.ref 1] s1 (fun (s2 : bi_St) => cI X d 101 [.ref 1, .int (x0 - (1 : Int32)), .int (3 : Int32)] s2 (fun (r3 : Int32) (s3 : bi_St) => ((¬ r3 = 0) → st_isB (st_gp s3 4) ∧ (bi_in x0 3 = true ∧ (cV X d 94 [.ref 1] (st_p s3 ((st_gp s3 4) + 6) (x0).toNatClampNeg (st_g s3 1 6)) (fun (s4 : bi_St) => K (1 : Int32) s4) (fun _ _ => False)))) ∧ (¬ (¬ r3 = 0) → K (0 : Int32) s3)) (fun _ _ => False)) (fun _ _ => False)) ∧ (¬ (¬ r1 = 0) → K (1 : Int32) s1)) (fun _ _ => False)))) : cI X (d + 1) 113 [.ref 43, .int x0] s K E := by
  show bi_T _ _ _ _ _
  obtain ⟨h0q0_1, h⟩ := h
  refine bi_Tr 2 (s' := (4, [(0, .ref 43), (1, .int x0)], [.ref (st_gp s 4)], st_mm s)) rfl ?_
  refine bi_Tgr rfl rfl rfl (st_kB0 h0q0_1) (st_pB11 h0q0_1) ?_
  refine bi_Tr 2 (s' := (9, [(0, .ref 43), (1, .int x0)], [.int (-1 : Int32), .int x0, .ref ((st_gp s 4) + 6)], st_mm s)) rfl ?_
  obtain ⟨hi, h⟩ := h
  refine bi_Tias rfl (st_kB6 h0q0_1) hi ?_
  refine bi_Tr 3 (s' := (16, [(0, .ref 43), (1, .int x0)], [.ref 5024, .ref 1], st_mm (st_p s ((st_gp s 4) + 6) (x0).toNatClampNeg (-1 : Int32)))) rfl ?_
  refine bi_TcI (as := [.ref 1, .ref 5024]) rfl rfl ?_
  refine cI.mono h (fun r1 s1 h => ?_) (fun _ _ h => h.elim)
  refine bi_Tr 1 (s' := ((if ¬ r1 = 0 then 24 else 22), [(0, .ref 43), (1, .int x0)], [], st_mm s1)) rfl (bi_Tif (fun hc => ?_) (fun hc => ?_))
  · have h := h.1 hc
    refine bi_Tr 2 (s' := (28, [(0, .ref 43), (1, .int x0)], [.ref 1], st_mm s1)) rfl ?_
    refine bi_TcV (as := [.ref 1]) rfl rfl ?_
    refine cV.mono h (fun s2 h => ?_) (fun _ _ h => h.elim)
    refine bi_Tr 6 (s' := (39, [(0, .ref 43), (1, .int x0)], [.int (3 : Int32), .int (x0 - (1 : Int32)), .ref 1], st_mm s2)) rfl ?_
    refine bi_TcI (as := [.ref 1, .int (x0 - (1 : Int32)), .int (3 : Int32)]) rfl rfl ?_
    refine cI.mono h (fun r3 s3 h => ?_) (fun _ _ h => h.elim)
    refine bi_Tr 1 (s' := ((if ¬ r3 = 0 then 47 else 45), [(0, .ref 43), (1, .int x0)], [], st_mm s3)) rfl (bi_Tif (fun hc => ?_) (fun hc => ?_))
    · have h := h.1 hc
      obtain ⟨h0q2_48, h⟩ := h
      refine bi_Tr 2 (s' := (51, [(0, .ref 43), (1, .int x0)], [.ref (st_gp s3 4)], st_mm s3)) rfl ?_
      refine bi_Tgr rfl rfl rfl (st_kB0 h0q2_48) (st_pB11 h0q2_48) ?_
      refine bi_Tr 4 (s' := (62, [(0, .ref 43), (1, .int x0)], [.int (st_g s3 1 6), .int x0, .ref ((st_gp s3 4) + 6)], st_mm s3)) rfl ?_
      obtain ⟨hi, h⟩ := h
      refine bi_Tias rfl (st_kB6 h0q2_48) hi ?_
      refine bi_Tr 2 (s' := (67, [(0, .ref 43), (1, .int x0)], [.ref 1], st_mm (st_p s3 ((st_gp s3 4) + 6) (x0).toNatClampNeg (st_g s3 1 6)))) rfl ?_
      refine bi_TcV (as := [.ref 1]) rfl rfl ?_
      refine cV.mono h (fun s4 h => ?_) (fun _ _ h => h.elim)
      refine bi_Tr 1 (s' := (71, [(0, .ref 43), (1, .int x0)], [.int (1 : Int32)], st_mm s4)) rfl ?_
      exact bi_Tv rfl rfl (Or.inl ⟨_, _, rfl, h⟩)
    · have h := h.2 hc
      refine bi_Tr 1 (s' := (46, [(0, .ref 43), (1, .int x0)], [.int (0 : Int32)], st_mm s3)) rfl ?_
      exact bi_Tv rfl rfl (Or.inl ⟨_, _, rfl, h⟩)
  · have h := h.2 hc
    refine bi_Tr 1 (s' := (23, [(0, .ref 43), (1, .int x0)], [.int (1 : Int32)], st_mm s1)) rfl ?_
    exact bi_Tv rfl rfl (Or.inl ⟨_, _, rfl, h⟩)
