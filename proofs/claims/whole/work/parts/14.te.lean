/-- PolicyRowsModel.thrown()I -/
theorem en_X12_thrown {X : bi_X} {d : Nat} {K : Int32 → bi_St → Prop} {E : Nat → bi_St → Prop} {s : bi_St}   (h : K (st_g s 77 0) s) : cI X d 162 [.ref 77] s K E := by
  show bi_T _ _ _ _ _
  refine bi_Tr 2 (s' := (4, [(0, .ref 77)], [.int (st_g s 77 0)], st_mm s)) rfl ?_
  exact bi_Tv rfl rfl (Or.inl ⟨_, _, rfl, h⟩)
/-- PolicyRowsModel.right(ZI)Z -/
theorem en_X12_right {X : bi_X} {d : Nat} {K : Int32 → bi_St → Prop} {E : Nat → bi_St → Prop} {s : bi_St} {x0 : Int32} {x1 : Int32}  (h : ((¬ (st_g s 77 0) = 0) → ((¬ (st_g s 77 0) = 0) → K (0 : Int32) s) ∧ (¬ (¬ (st_g s 77 0) = 0) → K (1 : Int32) s)) ∧ (¬ (¬ (st_g s 77 0) = 0) → ((¬ x0 = 0) → ((¬ (st_g s 77 0) = 0) → K (0 : Int32) s) ∧ (¬ (¬ (st_g s 77 0) = 0) → K (1 : Int32) s)) ∧ (¬ (¬ x0 = 0) → ((¬ (st_g (st_p s 77 0 x1) 77 0) = 0) → K (0 : Int32) (st_p s 77 0 x1)) ∧ (¬ (¬ (st_g (st_p s 77 0 x1) 77 0) = 0) → K (1 : Int32) (st_p s 77 0 x1))))) : cI X d 163 [.ref 77, .int x0, .int x1] s K E := by
  show bi_T _ _ _ _ _
  refine bi_Tr 3 (s' := ((if ¬ (st_g s 77 0) = 0 then 16 else 7), [(0, .ref 77), (1, .int x0), (2, .int x1)], [], st_mm s)) rfl (bi_Tif (fun hc => ?_) (fun hc => ?_))
  · have h := h.1 hc
    refine bi_Tr 3 (s' := ((if ¬ (st_g s 77 0) = 0 then 27 else 23), [(0, .ref 77), (1, .int x0), (2, .int x1)], [], st_mm s)) rfl (bi_Tif (fun hc => ?_) (fun hc => ?_))
    · have h := h.1 hc
      refine bi_Tr 1 (s' := (28, [(0, .ref 77), (1, .int x0), (2, .int x1)], [.int (0 : Int32)], st_mm s)) rfl ?_
      exact bi_Tv rfl rfl (Or.inl ⟨_, _, rfl, h⟩)
    · have h := h.2 hc
      refine bi_Tr 2 (s' := (28, [(0, .ref 77), (1, .int x0), (2, .int x1)], [.int (1 : Int32)], st_mm s)) rfl ?_
      exact bi_Tv rfl rfl (Or.inl ⟨_, _, rfl, h⟩)
  · have h := h.2 hc
    refine bi_Tr 2 (s' := ((if ¬ x0 = 0 then 16 else 11), [(0, .ref 77), (1, .int x0), (2, .int x1)], [], st_mm s)) rfl (bi_Tif (fun hc => ?_) (fun hc => ?_))
    · have h := h.1 hc
      refine bi_Tr 3 (s' := ((if ¬ (st_g s 77 0) = 0 then 27 else 23), [(0, .ref 77), (1, .int x0), (2, .int x1)], [], st_mm s)) rfl (bi_Tif (fun hc => ?_) (fun hc => ?_))
      · have h := h.1 hc
        refine bi_Tr 1 (s' := (28, [(0, .ref 77), (1, .int x0), (2, .int x1)], [.int (0 : Int32)], st_mm s)) rfl ?_
        exact bi_Tv rfl rfl (Or.inl ⟨_, _, rfl, h⟩)
      · have h := h.2 hc
        refine bi_Tr 2 (s' := (28, [(0, .ref 77), (1, .int x0), (2, .int x1)], [.int (1 : Int32)], st_mm s)) rfl ?_
        exact bi_Tv rfl rfl (Or.inl ⟨_, _, rfl, h⟩)
    · have h := h.2 hc
      refine bi_Tr 6 (s' := ((if ¬ (st_g (st_p s 77 0 x1) 77 0) = 0 then 27 else 23), [(0, .ref 77), (1, .int x0), (2, .int x1)], [], st_mm (st_p s 77 0 x1))) rfl (bi_Tif (fun hc => ?_) (fun hc => ?_))
      · have h := h.1 hc
        refine bi_Tr 1 (s' := (28, [(0, .ref 77), (1, .int x0), (2, .int x1)], [.int (0 : Int32)], st_mm (st_p s 77 0 x1))) rfl ?_
        exact bi_Tv rfl rfl (Or.inl ⟨_, _, rfl, h⟩)
      · have h := h.2 hc
        refine bi_Tr 2 (s' := (28, [(0, .ref 77), (1, .int x0), (2, .int x1)], [.int (1 : Int32)], st_mm (st_p s 77 0 x1))) rfl ?_
        exact bi_Tv rfl rfl (Or.inl ⟨_, _, rfl, h⟩)
/-- PolicyRowsModel.within(III)Z -/
theorem en_X12_within {X : bi_X} {d : Nat} {K : Int32 → bi_St → Prop} {E : Nat → bi_St → Prop} {s : bi_St} {x0 : Int32} {x1 : Int32} {x2 : Int32}  (h : ((x0 < x1) → K (0 : Int32) s) ∧ (¬ (x0 < x1) → ((x2 < x0) → K (0 : Int32) s) ∧ (¬ (x2 < x0) → K (1 : Int32) s))) : cI X d 164 [.int x0, .int x1, .int x2] s K E := by
  show bi_T _ _ _ _ _
  refine bi_Tr 3 (s' := ((if x0 < x1 then 14 else 5), [(0, .int x0), (1, .int x1), (2, .int x2)], [], st_mm s)) rfl (bi_Tif (fun hc => ?_) (fun hc => ?_))
  · have h := h.1 hc
    refine bi_Tr 1 (s' := (15, [(0, .int x0), (1, .int x1), (2, .int x2)], [.int (0 : Int32)], st_mm s)) rfl ?_
    exact bi_Tv rfl rfl (Or.inl ⟨_, _, rfl, h⟩)
  · have h := h.2 hc
    refine bi_Tr 3 (s' := ((if x2 < x0 then 14 else 10), [(0, .int x0), (1, .int x1), (2, .int x2)], [], st_mm s)) rfl (bi_Tif (fun hc => ?_) (fun hc => ?_))
    · have h := h.1 hc
      refine bi_Tr 1 (s' := (15, [(0, .int x0), (1, .int x1), (2, .int x2)], [.int (0 : Int32)], st_mm s)) rfl ?_
      exact bi_Tv rfl rfl (Or.inl ⟨_, _, rfl, h⟩)
    · have h := h.2 hc
      refine bi_Tr 2 (s' := (15, [(0, .int x0), (1, .int x1), (2, .int x2)], [.int (1 : Int32)], st_mm s)) rfl ?_
      exact bi_Tv rfl rfl (Or.inl ⟨_, _, rfl, h⟩)
def at_X12_copies_2 (X : bi_X) (d : Nat) (K : bi_St → Prop) (E : Nat → bi_St → Prop) (s : bi_St) (y3 : Int32) (b1 : Nat) (b2 : Nat) : Prop := bi_T X d 165 (2, [(1, .ref b1), (2, .ref b2), (3, .int y3)], [], st_mm s) (st_RV K E)
theorem go_X12_copies_2 {X : bi_X} {d : Nat} {K : bi_St → Prop} {E : Nat → bi_St → Prop} {a0 n0 : Nat} {a1 n1 : Nat} {s : bi_St} {y3 : Int32} {b1 : Nat} {b2 : Nat} (hc1 : ∀ s : bi_St, bi_kd (st_mm s) b1 = (14, n0)) (hd1 : Nat.beq b1 4999 = false) (hc2 : ∀ s : bi_St, bi_kd (st_mm s) b2 = (14, n1)) (hd2 : Nat.beq b2 4999 = false) (h : (((Int32.ofNat n0) ≤ y3) → K s) ∧ (¬ ((Int32.ofNat n0) ≤ y3) → bi_in y3 n0 = true ∧ (bi_in y3 n1 = true ∧ (at_X12_copies_2 X d K E (st_p s b2 (y3).toNatClampNeg (st_g s b1 (y3).toNatClampNeg)) ((y3 + (1 : Int32))) (b1) (b2))))) : at_X12_copies_2 X d K E s y3 b1 b2 := by
  show bi_T _ _ _ _ _
  refine bi_Tr 2 (s' := (4, [(1, .ref b1), (2, .ref b2), (3, .int y3)], [.ref b1, .int y3], st_mm s)) rfl ?_
  refine bi_T1 (b := true) (s' := (5, [(1, .ref b1), (2, .ref b2), (3, .int y3)], [.int (Int32.ofNat n0), .int y3], st_mm s)) (by rw [bi_stp_eq rfl]; simp only [bi_step, bi_alen, hd1, (hc1 (s))]; rfl) rfl ?_
  refine bi_Tr 1 (s' := ((if (Int32.ofNat n0) ≤ y3 then 20 else 8), [(1, .ref b1), (2, .ref b2), (3, .int y3)], [], st_mm s)) rfl (bi_Tif (fun hc => ?_) (fun hc => ?_))
  · have h := h.1 hc
    exact bi_Tv rfl rfl (Or.inl ⟨_, rfl, h⟩)
  · have h := h.2 hc
    refine bi_Tr 4 (s' := (12, [(1, .ref b1), (2, .ref b2), (3, .int y3)], [.int y3, .ref b1, .int y3, .ref b2], st_mm s)) rfl ?_
    obtain ⟨hi, h⟩ := h
    refine bi_Tial rfl hd1 (hc1 _) hi ?_
    obtain ⟨hi, h⟩ := h
    refine bi_Tias rfl (hc2 _) hi ?_
    refine bi_Tr 2 (s' := (2, [(3, .int (y3 + (1 : Int32))), (1, .ref b1), (2, .ref b2)], [], st_mm (st_p s b2 (y3).toNatClampNeg (st_g s b1 (y3).toNatClampNeg)))) rfl ?_
    exact bi_Tww h rfl rfl ⟨rfl, rfl, rfl, trivial⟩
/-- PolicyRowsModel.copies([I[I)V -/
theorem en_X12_copies {X : bi_X} {d : Nat} {K : bi_St → Prop} {E : Nat → bi_St → Prop} {s : bi_St} {a0 n0 : Nat} {a1 n1 : Nat} (ha0 : ∀ s : bi_St, bi_kd (st_mm s) a0 = (14, n0)) (hb0 : Nat.beq a0 4999 = false) (ha1 : ∀ s : bi_St, bi_kd (st_mm s) a1 = (14, n1)) (hb1 : Nat.beq a1 4999 = false) (h : at_X12_copies_2 X d K E s ((0 : Int32)) (a0) (a1)) : cV X d 165 [.ref 77, .ref a0, .ref a1] s K E := by
  show bi_T _ _ _ _ _
  refine bi_Tr 2 (s' := (2, [(3, .int (0 : Int32)), (0, .ref 77), (1, .ref a0), (2, .ref a1)], [], st_mm s)) rfl ?_
  exact bi_Tww h rfl rfl ⟨rfl, rfl, rfl, trivial⟩
def at_X12_bits_4 (X : bi_X) (d : Nat) (K : Int32 → bi_St → Prop) (E : Nat → bi_St → Prop) (s : bi_St) (y0 : Int32) (y1 : Int32) (y2 : Int32) : Prop := bi_T X d 166 (4, [(0, .int y0), (1, .int y1), (2, .int y2)], [], st_mm s) (st_RI K E)
theorem go_X12_bits_4 {X : bi_X} {d : Nat} {K : Int32 → bi_St → Prop} {E : Nat → bi_St → Prop}  {s : bi_St} {y0 : Int32} {y1 : Int32} {y2 : Int32}  (h : (((16 : Int32) ≤ y2) → K y1 s) ∧ (¬ ((16 : Int32) ≤ y2) → at_X12_bits_4 X d K E s (y0) ((y1 + ((y0 >>> (y2 &&& 31)) &&& (1 : Int32)))) ((y2 + (1 : Int32))))) : at_X12_bits_4 X d K E s y0 y1 y2 := by
  show bi_T _ _ _ _ _
  refine bi_Tr 3 (s' := ((if (16 : Int32) ≤ y2 then 24 else 10), [(0, .int y0), (1, .int y1), (2, .int y2)], [], st_mm s)) rfl (bi_Tif (fun hc => ?_) (fun hc => ?_))
  · have h := h.1 hc
    refine bi_Tr 1 (s' := (25, [(0, .int y0), (1, .int y1), (2, .int y2)], [.int y1], st_mm s)) rfl ?_
    exact bi_Tv rfl rfl (Or.inl ⟨_, _, rfl, h⟩)
  · have h := h.2 hc
    refine bi_Tr 10 (s' := (4, [(2, .int (y2 + (1 : Int32))), (1, .int (y1 + ((y0 >>> (y2 &&& 31)) &&& (1 : Int32)))), (0, .int y0)], [], st_mm s)) rfl ?_
    exact bi_Tww h rfl rfl ⟨rfl, rfl, rfl, trivial⟩
/-- PolicyRowsModel.bits(I)I -/
theorem en_X12_bits {X : bi_X} {d : Nat} {K : Int32 → bi_St → Prop} {E : Nat → bi_St → Prop} {s : bi_St} {x0 : Int32}  (h : at_X12_bits_4 X d K E s (x0) ((0 : Int32)) ((0 : Int32))) : cI X d 166 [.int x0] s K E := by
  show bi_T _ _ _ _ _
  refine bi_Tr 4 (s' := (4, [(2, .int (0 : Int32)), (1, .int (0 : Int32)), (0, .int x0)], [], st_mm s)) rfl ?_
  exact bi_Tww h rfl rfl ⟨rfl, rfl, rfl, trivial⟩
/-- PolicyRowsModel.feed(IIIII)I -/
theorem en_X12_feed {X : bi_X} {d : Nat} {K : Int32 → bi_St → Prop} {E : Nat → bi_St → Prop} {s : bi_St} {x0 : Int32} {x1 : Int32} {x2 : Int32} {x3 : Int32} {x4 : Int32}  (h : ((((st_g (st_p s 77 0 (0 : Int32)) 77 2) + (20 : Int32)) ≤ (700 : Int32)) → cV X d 168 [.ref 77, .int x0] (st_p s 77 0 (0 : Int32)) (fun (s1 : bi_St) => cV X d 168 [.ref 77, .int x1] s1 (fun (s2 : bi_St) => cV X d 168 [.ref 77, .int x2] s2 (fun (s3 : bi_St) => cV X d 168 [.ref 77, .int x3] s3 (fun (s4 : bi_St) => cV X d 168 [.ref 77, .int x4] s4 (fun (s5 : bi_St) => K (st_g s5 77 2) s5) (fun _ _ => False)) (fun _ _ => False)) (fun _ _ => False)) (fun _ _ => False)) (fun _ _ => False)) ∧ (¬ (((st_g (st_p s 77 0 (0 : Int32)) 77 2) + (20 : Int32)) ≤ (700 : Int32)) → K (-1 : Int32) (st_p s 77 0 (0 : Int32)))) : cI X (d + 1) 167 [.ref 77, .int x0, .int x1, .int x2, .int x3, .int x4] s K E := by
  show bi_T _ _ _ _ _
  refine bi_Tr 9 (s' := ((if ((st_g (st_p s 77 0 (0 : Int32)) 77 2) + (20 : Int32)) ≤ (700 : Int32) then 20 else 18), [(0, .ref 77), (1, .int x0), (2, .int x1), (3, .int x2), (4, .int x3), (5, .int x4)], [], st_mm (st_p s 77 0 (0 : Int32)))) rfl (bi_Tif (fun hc => ?_) (fun hc => ?_))
  · have h := h.1 hc
    refine bi_Tr 2 (s' := (22, [(0, .ref 77), (1, .int x0), (2, .int x1), (3, .int x2), (4, .int x3), (5, .int x4)], [.int x0, .ref 77], st_mm (st_p s 77 0 (0 : Int32)))) rfl ?_
    refine bi_TcV (as := [.ref 77, .int x0]) rfl rfl ?_
    refine cV.mono h (fun s1 h => ?_) (fun _ _ h => h.elim)
    refine bi_Tr 2 (s' := (27, [(0, .ref 77), (1, .int x0), (2, .int x1), (3, .int x2), (4, .int x3), (5, .int x4)], [.int x1, .ref 77], st_mm s1)) rfl ?_
    refine bi_TcV (as := [.ref 77, .int x1]) rfl rfl ?_
    refine cV.mono h (fun s2 h => ?_) (fun _ _ h => h.elim)
    refine bi_Tr 2 (s' := (32, [(0, .ref 77), (1, .int x0), (2, .int x1), (3, .int x2), (4, .int x3), (5, .int x4)], [.int x2, .ref 77], st_mm s2)) rfl ?_
    refine bi_TcV (as := [.ref 77, .int x2]) rfl rfl ?_
    refine cV.mono h (fun s3 h => ?_) (fun _ _ h => h.elim)
    refine bi_Tr 2 (s' := (38, [(0, .ref 77), (1, .int x0), (2, .int x1), (3, .int x2), (4, .int x3), (5, .int x4)], [.int x3, .ref 77], st_mm s3)) rfl ?_
    refine bi_TcV (as := [.ref 77, .int x3]) rfl rfl ?_
    refine cV.mono h (fun s4 h => ?_) (fun _ _ h => h.elim)
    refine bi_Tr 2 (s' := (44, [(0, .ref 77), (1, .int x0), (2, .int x1), (3, .int x2), (4, .int x3), (5, .int x4)], [.int x4, .ref 77], st_mm s4)) rfl ?_
    refine bi_TcV (as := [.ref 77, .int x4]) rfl rfl ?_
    refine cV.mono h (fun s5 h => ?_) (fun _ _ h => h.elim)
    refine bi_Tr 2 (s' := (51, [(0, .ref 77), (1, .int x0), (2, .int x1), (3, .int x2), (4, .int x3), (5, .int x4)], [.int (st_g s5 77 2)], st_mm s5)) rfl ?_
    exact bi_Tv rfl rfl (Or.inl ⟨_, _, rfl, h⟩)
  · have h := h.2 hc
    refine bi_Tr 1 (s' := (19, [(0, .ref 77), (1, .int x0), (2, .int x1), (3, .int x2), (4, .int x3), (5, .int x4)], [.int (-1 : Int32)], st_mm (st_p s 77 0 (0 : Int32)))) rfl ?_
    exact bi_Tv rfl rfl (Or.inl ⟨_, _, rfl, h⟩)
def at_X12_lays_3 (X : bi_X) (d : Nat) (K : bi_St → Prop) (E : Nat → bi_St → Prop) (s : bi_St) (y1 : Int32) (y2 : Int32) : Prop := bi_T X d 168 (3, [(0, .ref 77), (1, .int y1), (2, .int y2)], [], st_mm s) (st_RV K E)
theorem go_X12_lays_3 {X : bi_X} {d : Nat} {K : bi_St → Prop} {E : Nat → bi_St → Prop}  {s : bi_St} {y1 : Int32} {y2 : Int32}  (h : ((y2 < 0) → K s) ∧ (¬ (y2 < 0) → bi_in (st_g s 77 2) 700 = true ∧ (at_X12_lays_3 X d K E (st_p (st_p s 78 ((st_g s 77 2)).toNatClampNeg ((y1 >>> (y2 &&& 31)) &&& (255 : Int32))) 77 2 ((st_g (st_p s 78 ((st_g s 77 2)).toNatClampNeg ((y1 >>> (y2 &&& 31)) &&& (255 : Int32))) 77 2) + (1 : Int32))) (y1) ((y2 + (-8 : Int32)))))) : at_X12_lays_3 X d K E s y1 y2 := by
  show bi_T _ _ _ _ _
  refine bi_Tr 2 (s' := ((if y2 < 0 then 39 else 7), [(0, .ref 77), (1, .int y1), (2, .int y2)], [], st_mm s)) rfl (bi_Tif (fun hc => ?_) (fun hc => ?_))
  · have h := h.1 hc
    exact bi_Tv rfl rfl (Or.inl ⟨_, rfl, h⟩)
  · have h := h.2 hc
    refine bi_Tr 9 (s' := (22, [(0, .ref 77), (1, .int y1), (2, .int y2)], [.int ((y1 >>> (y2 &&& 31)) &&& (255 : Int32)), .int (st_g s 77 2), .ref 78], st_mm s)) rfl ?_
    obtain ⟨hi, h⟩ := h
    refine bi_Tias rfl rfl hi ?_
    refine bi_Tr 8 (s' := (3, [(2, .int (y2 + (-8 : Int32))), (0, .ref 77), (1, .int y1)], [], st_mm (st_p (st_p s 78 ((st_g s 77 2)).toNatClampNeg ((y1 >>> (y2 &&& 31)) &&& (255 : Int32))) 77 2 ((st_g (st_p s 78 ((st_g s 77 2)).toNatClampNeg ((y1 >>> (y2 &&& 31)) &&& (255 : Int32))) 77 2) + (1 : Int32))))) rfl ?_
    exact bi_Tww h rfl rfl ⟨rfl, rfl, rfl, trivial⟩
/-- PolicyRowsModel.lays(I)V -/
theorem en_X12_lays {X : bi_X} {d : Nat} {K : bi_St → Prop} {E : Nat → bi_St → Prop} {s : bi_St} {x0 : Int32}  (h : at_X12_lays_3 X d K E s (x0) ((24 : Int32))) : cV X d 168 [.ref 77, .int x0] s K E := by
  show bi_T _ _ _ _ _
  refine bi_Tr 2 (s' := (3, [(2, .int (24 : Int32)), (0, .ref 77), (1, .int x0)], [], st_mm s)) rfl ?_
  exact bi_Tww h rfl rfl ⟨rfl, rfl, rfl, trivial⟩
/-- PolicyRowsModel.byteAt(I)I -/
theorem en_X12_byteAt {X : bi_X} {d : Nat} {K : Int32 → bi_St → Prop} {E : Nat → bi_St → Prop} {s : bi_St} {x0 : Int32}  (h : (((st_g s 77 6) ≤ x0) → K (0 : Int32) s) ∧ (¬ ((st_g s 77 6) ≤ x0) → bi_in x0 700 = true ∧ (K (st_g s 78 (x0).toNatClampNeg) s))) : cI X d 169 [.ref 77, .int x0] s K E := by
  show bi_T _ _ _ _ _
  refine bi_Tr 4 (s' := ((if (st_g s 77 6) ≤ x0 then 17 else 8), [(0, .ref 77), (1, .int x0)], [], st_mm s)) rfl (bi_Tif (fun hc => ?_) (fun hc => ?_))
  · have h := h.1 hc
    refine bi_Tr 1 (s' := (18, [(0, .ref 77), (1, .int x0)], [.int (0 : Int32)], st_mm s)) rfl ?_
    exact bi_Tv rfl rfl (Or.inl ⟨_, _, rfl, h⟩)
  · have h := h.2 hc
    refine bi_Tr 3 (s' := (13, [(0, .ref 77), (1, .int x0)], [.int x0, .ref 78], st_mm s)) rfl ?_
    obtain ⟨hi, h⟩ := h
    refine bi_Tial rfl rfl rfl hi ?_
    refine bi_Tr 1 (s' := (18, [(0, .ref 77), (1, .int x0)], [.int (st_g s 78 (x0).toNatClampNeg)], st_mm s)) rfl ?_
    exact bi_Tv rfl rfl (Or.inl ⟨_, _, rfl, h⟩)
/-- PolicyRowsModel.isLetter(I)Z -/
theorem en_X12_isLetter {X : bi_X} {d : Nat} {K : Int32 → bi_St → Prop} {E : Nat → bi_St → Prop} {s : bi_St} {x0 : Int32}  (h : ((x0 < (97 : Int32)) → K (0 : Int32) s) ∧ (¬ (x0 < (97 : Int32)) → (((122 : Int32) < x0) → K (0 : Int32) s) ∧ (¬ ((122 : Int32) < x0) → K (1 : Int32) s))) : cI X d 170 [.int x0] s K E := by
  show bi_T _ _ _ _ _
  refine bi_Tr 3 (s' := ((if x0 < (97 : Int32) then 16 else 6), [(0, .int x0)], [], st_mm s)) rfl (bi_Tif (fun hc => ?_) (fun hc => ?_))
  · have h := h.1 hc
    refine bi_Tr 1 (s' := (17, [(0, .int x0)], [.int (0 : Int32)], st_mm s)) rfl ?_
    exact bi_Tv rfl rfl (Or.inl ⟨_, _, rfl, h⟩)
  · have h := h.2 hc
    refine bi_Tr 3 (s' := ((if (122 : Int32) < x0 then 16 else 12), [(0, .int x0)], [], st_mm s)) rfl (bi_Tif (fun hc => ?_) (fun hc => ?_))
    · have h := h.1 hc
      refine bi_Tr 1 (s' := (17, [(0, .int x0)], [.int (0 : Int32)], st_mm s)) rfl ?_
      exact bi_Tv rfl rfl (Or.inl ⟨_, _, rfl, h⟩)
    · have h := h.2 hc
      refine bi_Tr 2 (s' := (17, [(0, .int x0)], [.int (1 : Int32)], st_mm s)) rfl ?_
      exact bi_Tv rfl rfl (Or.inl ⟨_, _, rfl, h⟩)
/-- PolicyRowsModel.isDigit(I)Z -/
theorem en_X12_isDigit {X : bi_X} {d : Nat} {K : Int32 → bi_St → Prop} {E : Nat → bi_St → Prop} {s : bi_St} {x0 : Int32}  (h : ((x0 < (48 : Int32)) → K (0 : Int32) s) ∧ (¬ (x0 < (48 : Int32)) → (((57 : Int32) < x0) → K (0 : Int32) s) ∧ (¬ ((57 : Int32) < x0) → K (1 : Int32) s))) : cI X d 171 [.int x0] s K E := by
  show bi_T _ _ _ _ _
  refine bi_Tr 3 (s' := ((if x0 < (48 : Int32) then 16 else 6), [(0, .int x0)], [], st_mm s)) rfl (bi_Tif (fun hc => ?_) (fun hc => ?_))
  · have h := h.1 hc
    refine bi_Tr 1 (s' := (17, [(0, .int x0)], [.int (0 : Int32)], st_mm s)) rfl ?_
    exact bi_Tv rfl rfl (Or.inl ⟨_, _, rfl, h⟩)
  · have h := h.2 hc
    refine bi_Tr 3 (s' := ((if (57 : Int32) < x0 then 16 else 12), [(0, .int x0)], [], st_mm s)) rfl (bi_Tif (fun hc => ?_) (fun hc => ?_))
    · have h := h.1 hc
      refine bi_Tr 1 (s' := (17, [(0, .int x0)], [.int (0 : Int32)], st_mm s)) rfl ?_
      exact bi_Tv rfl rfl (Or.inl ⟨_, _, rfl, h⟩)
    · have h := h.2 hc
      refine bi_Tr 2 (s' := (17, [(0, .int x0)], [.int (1 : Int32)], st_mm s)) rfl ?_
      exact bi_Tv rfl rfl (Or.inl ⟨_, _, rfl, h⟩)
def at_X12_goes_50 (X : bi_X) (d : Nat) (K : bi_St → Prop) (E : Nat → bi_St → Prop) (s : bi_St)  : Prop := bi_T X d 172 (50, [(0, .ref 77)], [], st_mm s) (st_RV K E)
def at_X12_goes_37 (X : bi_X) (d : Nat) (K : bi_St → Prop) (E : Nat → bi_St → Prop) (s : bi_St)  : Prop := bi_T X d 172 (37, [(0, .ref 77)], [], st_mm s) (st_RV K E)
def at_X12_goes_337 (X : bi_X) (d : Nat) (K : bi_St → Prop) (E : Nat → bi_St → Prop) (s : bi_St)  : Prop := bi_T X d 172 (337, [(0, .ref 77)], [], st_mm s) (st_RV K E)
def at_X12_goes_187 (X : bi_X) (d : Nat) (K : bi_St → Prop) (E : Nat → bi_St → Prop) (s : bi_St)  : Prop := bi_T X d 172 (187, [(0, .ref 77)], [], st_mm s) (st_RV K E)
def at_X12_goes_108 (X : bi_X) (d : Nat) (K : bi_St → Prop) (E : Nat → bi_St → Prop) (s : bi_St)  : Prop := bi_T X d 172 (108, [(0, .ref 77)], [], st_mm s) (st_RV K E)
def at_X12_goes_0 (X : bi_X) (d : Nat) (K : bi_St → Prop) (E : Nat → bi_St → Prop) (s : bi_St)  : Prop := bi_T X d 172 (0, [(0, .ref 77)], [], st_mm s) (st_RV K E)
def at_X12_goes_237 (X : bi_X) (d : Nat) (K : bi_St → Prop) (E : Nat → bi_St → Prop) (s : bi_St)  : Prop := bi_T X d 172 (237, [(0, .ref 77)], [], st_mm s) (st_RV K E)
def at_X12_goes_159 (X : bi_X) (d : Nat) (K : bi_St → Prop) (E : Nat → bi_St → Prop) (s : bi_St)  : Prop := bi_T X d 172 (159, [(0, .ref 77)], [], st_mm s) (st_RV K E)
theorem go_X12_goes_50 {X : bi_X} {d : Nat} {K : bi_St → Prop} {E : Nat → bi_St → Prop}  {s : bi_St}   (h : cI X d 169 [.ref 77, .int (st_g (st_p (st_pl (st_p s 77 9 (st_g s 77 7)) 77 13 (0 : Int64)) 77 11 (0 : Int32)) 77 7)] (st_p (st_pl (st_p s 77 9 (st_g s 77 7)) 77 13 (0 : Int64)) 77 11 (0 : Int32)) (fun (r3 : Int32) (s3 : bi_St) => (((st_g (st_p s3 77 12 r3) 77 7) < (st_g (st_p s3 77 12 r3) 77 6)) → cI X d 170 [.int r3] (st_p s3 77 12 r3) (fun (r4 : Int32) (s4 : bi_St) => ((r4 = 0) → cI X d 171 [.int r3] s4 (fun (r5 : Int32) (s5 : bi_St) => ((r5 = 0) → ((r3 = (59 : Int32)) → at_X12_goes_337 X (d + 1) K E (st_p (st_p s5 77 7 ((st_g s5 77 7) + (1 : Int32))) 77 8 (3 : Int32))) ∧ (¬ (r3 = (59 : Int32)) → ((r3 = (44 : Int32)) → at_X12_goes_337 X (d + 1) K E (st_p (st_p s5 77 7 ((st_g s5 77 7) + (1 : Int32))) 77 8 (3 : Int32))) ∧ (¬ (r3 = (44 : Int32)) → ((r3 = (40 : Int32)) → at_X12_goes_337 X (d + 1) K E (st_p (st_p s5 77 7 ((st_g s5 77 7) + (1 : Int32))) 77 8 (3 : Int32))) ∧ (¬ (r3 = (40 : Int32)) → ((r3 = (41 : Int32)) → at_X12_goes_337 X (d + 1) K E (st_p (st_p s5 77 7 ((st_g s5 77 7) + (1 : Int32))) 77 8 (3 : Int32))) ∧ (¬ (r3 = (41 : Int32)) → ((r3 = (43 : Int32)) → at_X12_goes_337 X (d + 1) K E (st_p (st_p s5 77 7 ((st_g s5 77 7) + (1 : Int32))) 77 8 (3 : Int32))) ∧ (¬ (r3 = (43 : Int32)) → ((r3 = (45 : Int32)) → at_X12_goes_337 X (d + 1) K E (st_p (st_p s5 77 7 ((st_g s5 77 7) + (1 : Int32))) 77 8 (3 : Int32))) ∧ (¬ (r3 = (45 : Int32)) → ((r3 = (42 : Int32)) → at_X12_goes_337 X (d + 1) K E (st_p (st_p s5 77 7 ((st_g s5 77 7) + (1 : Int32))) 77 8 (3 : Int32))) ∧ (¬ (r3 = (42 : Int32)) → ((r3 = (47 : Int32)) → at_X12_goes_337 X (d + 1) K E (st_p (st_p s5 77 7 ((st_g s5 77 7) + (1 : Int32))) 77 8 (3 : Int32))) ∧ (¬ (r3 = (47 : Int32)) → ((r3 = (60 : Int32)) → at_X12_goes_337 X (d + 1) K E (st_p (st_p s5 77 7 ((st_g s5 77 7) + (1 : Int32))) 77 8 (3 : Int32))) ∧ (¬ (r3 = (60 : Int32)) → ((¬ r3 = (61 : Int32)) → at_X12_goes_337 X (d + 1) K E (st_p (st_p s5 77 7 ((st_g s5 77 7) + (1 : Int32))) 77 8 (4 : Int32))) ∧ (¬ (¬ r3 = (61 : Int32)) → at_X12_goes_337 X (d + 1) K E (st_p (st_p s5 77 7 ((st_g s5 77 7) + (1 : Int32))) 77 8 (3 : Int32))))))))))))) ∧ (¬ (r5 = 0) → at_X12_goes_187 X (d + 1) K E s5)) (fun _ _ => False)) ∧ (¬ (r4 = 0) → at_X12_goes_108 X (d + 1) K E s4)) (fun _ _ => False)) ∧ (¬ ((st_g (st_p s3 77 12 r3) 77 7) < (st_g (st_p s3 77 12 r3) 77 6)) → at_X12_goes_337 X (d + 1) K E (st_p (st_p s3 77 12 r3) 77 8 (0 : Int32)))) (fun _ _ => False)) : at_X12_goes_50 X (d + 1) K E s  := by
  show bi_T _ _ _ _ _
  refine bi_Tr 13 (s' := (73, [(0, .ref 77)], [.int (st_g (st_p (st_pl (st_p s 77 9 (st_g s 77 7)) 77 13 (0 : Int64)) 77 11 (0 : Int32)) 77 7), .ref 77], st_mm (st_p (st_pl (st_p s 77 9 (st_g s 77 7)) 77 13 (0 : Int64)) 77 11 (0 : Int32)))) rfl ?_
  refine bi_TcI (as := [.ref 77, .int (st_g (st_p (st_pl (st_p s 77 9 (st_g s 77 7)) 77 13 (0 : Int64)) 77 11 (0 : Int32)) 77 7)]) rfl rfl ?_
  refine cI.mono h (fun r3 s3 h => ?_) (fun _ _ h => h.elim)
  refine bi_Tr 9 (s' := ((if (st_g (st_p s3 77 12 r3) 77 7) < (st_g (st_p s3 77 12 r3) 77 6) then 101 else 93), [(1, .int r3), (0, .ref 77)], [], st_mm (st_p s3 77 12 r3))) rfl (bi_Tif (fun hc => ?_) (fun hc => ?_))
  · have h := h.1 hc
    refine bi_Tr 1 (s' := (102, [(1, .int r3), (0, .ref 77)], [.int r3], st_mm (st_p s3 77 12 r3))) rfl ?_
    refine bi_TcI (as := [.int r3]) rfl rfl ?_
    refine cI.mono h (fun r4 s4 h => ?_) (fun _ _ h => h.elim)
    refine bi_Tr 1 (s' := ((if r4 = 0 then 180 else 108), [(1, .int r3), (0, .ref 77)], [], st_mm s4)) rfl (bi_Tif (fun hc => ?_) (fun hc => ?_))
    · have h := h.1 hc
      refine bi_Tr 1 (s' := (181, [(1, .int r3), (0, .ref 77)], [.int r3], st_mm s4)) rfl ?_
      refine bi_TcI (as := [.int r3]) rfl rfl ?_
      refine cI.mono h (fun r5 s5 h => ?_) (fun _ _ h => h.elim)
      refine bi_Tr 1 (s' := ((if r5 = 0 then 258 else 187), [(1, .int r3), (0, .ref 77)], [], st_mm s5)) rfl (bi_Tif (fun hc => ?_) (fun hc => ?_))
      · have h := h.1 hc
        refine bi_Tr 10 (s' := ((if r3 = (59 : Int32) then 329 else 275), [(1, .int r3), (0, .ref 77)], [.ref 77], st_mm (st_p s5 77 7 ((st_g s5 77 7) + (1 : Int32))))) rfl (bi_Tif (fun hc => ?_) (fun hc => ?_))
        · have h := h.1 hc
          refine bi_Tr 3 (s' := (337, [(1, .int r3), (0, .ref 77)], [], st_mm (st_p (st_p s5 77 7 ((st_g s5 77 7) + (1 : Int32))) 77 8 (3 : Int32)))) rfl ?_
          exact bi_Tww h rfl rfl ⟨rfl, trivial⟩
        · have h := h.2 hc
          refine bi_Tr 3 (s' := ((if r3 = (44 : Int32) then 329 else 281), [(1, .int r3), (0, .ref 77)], [.ref 77], st_mm (st_p s5 77 7 ((st_g s5 77 7) + (1 : Int32))))) rfl (bi_Tif (fun hc => ?_) (fun hc => ?_))
          · have h := h.1 hc
            refine bi_Tr 3 (s' := (337, [(1, .int r3), (0, .ref 77)], [], st_mm (st_p (st_p s5 77 7 ((st_g s5 77 7) + (1 : Int32))) 77 8 (3 : Int32)))) rfl ?_
            exact bi_Tww h rfl rfl ⟨rfl, trivial⟩
          · have h := h.2 hc
            refine bi_Tr 3 (s' := ((if r3 = (40 : Int32) then 329 else 287), [(1, .int r3), (0, .ref 77)], [.ref 77], st_mm (st_p s5 77 7 ((st_g s5 77 7) + (1 : Int32))))) rfl (bi_Tif (fun hc => ?_) (fun hc => ?_))
            · have h := h.1 hc
              refine bi_Tr 3 (s' := (337, [(1, .int r3), (0, .ref 77)], [], st_mm (st_p (st_p s5 77 7 ((st_g s5 77 7) + (1 : Int32))) 77 8 (3 : Int32)))) rfl ?_
              exact bi_Tww h rfl rfl ⟨rfl, trivial⟩
            · have h := h.2 hc
              refine bi_Tr 3 (s' := ((if r3 = (41 : Int32) then 329 else 293), [(1, .int r3), (0, .ref 77)], [.ref 77], st_mm (st_p s5 77 7 ((st_g s5 77 7) + (1 : Int32))))) rfl (bi_Tif (fun hc => ?_) (fun hc => ?_))
              · have h := h.1 hc
                refine bi_Tr 3 (s' := (337, [(1, .int r3), (0, .ref 77)], [], st_mm (st_p (st_p s5 77 7 ((st_g s5 77 7) + (1 : Int32))) 77 8 (3 : Int32)))) rfl ?_
                exact bi_Tww h rfl rfl ⟨rfl, trivial⟩
              · have h := h.2 hc
                refine bi_Tr 3 (s' := ((if r3 = (43 : Int32) then 329 else 299), [(1, .int r3), (0, .ref 77)], [.ref 77], st_mm (st_p s5 77 7 ((st_g s5 77 7) + (1 : Int32))))) rfl (bi_Tif (fun hc => ?_) (fun hc => ?_))
                · have h := h.1 hc
                  refine bi_Tr 3 (s' := (337, [(1, .int r3), (0, .ref 77)], [], st_mm (st_p (st_p s5 77 7 ((st_g s5 77 7) + (1 : Int32))) 77 8 (3 : Int32)))) rfl ?_
                  exact bi_Tww h rfl rfl ⟨rfl, trivial⟩
                · have h := h.2 hc
                  refine bi_Tr 3 (s' := ((if r3 = (45 : Int32) then 329 else 305), [(1, .int r3), (0, .ref 77)], [.ref 77], st_mm (st_p s5 77 7 ((st_g s5 77 7) + (1 : Int32))))) rfl (bi_Tif (fun hc => ?_) (fun hc => ?_))
                  · have h := h.1 hc
                    refine bi_Tr 3 (s' := (337, [(1, .int r3), (0, .ref 77)], [], st_mm (st_p (st_p s5 77 7 ((st_g s5 77 7) + (1 : Int32))) 77 8 (3 : Int32)))) rfl ?_
                    exact bi_Tww h rfl rfl ⟨rfl, trivial⟩
                  · have h := h.2 hc
                    refine bi_Tr 3 (s' := ((if r3 = (42 : Int32) then 329 else 311), [(1, .int r3), (0, .ref 77)], [.ref 77], st_mm (st_p s5 77 7 ((st_g s5 77 7) + (1 : Int32))))) rfl (bi_Tif (fun hc => ?_) (fun hc => ?_))
                    · have h := h.1 hc
                      refine bi_Tr 3 (s' := (337, [(1, .int r3), (0, .ref 77)], [], st_mm (st_p (st_p s5 77 7 ((st_g s5 77 7) + (1 : Int32))) 77 8 (3 : Int32)))) rfl ?_
                      exact bi_Tww h rfl rfl ⟨rfl, trivial⟩
                    · have h := h.2 hc
                      refine bi_Tr 3 (s' := ((if r3 = (47 : Int32) then 329 else 317), [(1, .int r3), (0, .ref 77)], [.ref 77], st_mm (st_p s5 77 7 ((st_g s5 77 7) + (1 : Int32))))) rfl (bi_Tif (fun hc => ?_) (fun hc => ?_))
                      · have h := h.1 hc
                        refine bi_Tr 3 (s' := (337, [(1, .int r3), (0, .ref 77)], [], st_mm (st_p (st_p s5 77 7 ((st_g s5 77 7) + (1 : Int32))) 77 8 (3 : Int32)))) rfl ?_
                        exact bi_Tww h rfl rfl ⟨rfl, trivial⟩
                      · have h := h.2 hc
                        refine bi_Tr 3 (s' := ((if r3 = (60 : Int32) then 329 else 323), [(1, .int r3), (0, .ref 77)], [.ref 77], st_mm (st_p s5 77 7 ((st_g s5 77 7) + (1 : Int32))))) rfl (bi_Tif (fun hc => ?_) (fun hc => ?_))
                        · have h := h.1 hc
                          refine bi_Tr 3 (s' := (337, [(1, .int r3), (0, .ref 77)], [], st_mm (st_p (st_p s5 77 7 ((st_g s5 77 7) + (1 : Int32))) 77 8 (3 : Int32)))) rfl ?_
                          exact bi_Tww h rfl rfl ⟨rfl, trivial⟩
                        · have h := h.2 hc
                          refine bi_Tr 3 (s' := ((if ¬ r3 = (61 : Int32) then 333 else 329), [(1, .int r3), (0, .ref 77)], [.ref 77], st_mm (st_p s5 77 7 ((st_g s5 77 7) + (1 : Int32))))) rfl (bi_Tif (fun hc => ?_) (fun hc => ?_))
                          · have h := h.1 hc
                            refine bi_Tr 2 (s' := (337, [(1, .int r3), (0, .ref 77)], [], st_mm (st_p (st_p s5 77 7 ((st_g s5 77 7) + (1 : Int32))) 77 8 (4 : Int32)))) rfl ?_
                            exact bi_Tww h rfl rfl ⟨rfl, trivial⟩
                          · have h := h.2 hc
                            refine bi_Tr 3 (s' := (337, [(1, .int r3), (0, .ref 77)], [], st_mm (st_p (st_p s5 77 7 ((st_g s5 77 7) + (1 : Int32))) 77 8 (3 : Int32)))) rfl ?_
                            exact bi_Tww h rfl rfl ⟨rfl, trivial⟩
      · have h := h.2 hc
        exact bi_Tww h rfl rfl ⟨rfl, trivial⟩
    · have h := h.2 hc
      exact bi_Tww h rfl rfl ⟨rfl, trivial⟩
  · have h := h.2 hc
    refine bi_Tr 4 (s' := (337, [(1, .int r3), (0, .ref 77)], [], st_mm (st_p (st_p s3 77 12 r3) 77 8 (0 : Int32)))) rfl ?_
    exact bi_Tww h rfl rfl ⟨rfl, trivial⟩
theorem go_X12_goes_37 {X : bi_X} {d : Nat} {K : bi_St → Prop} {E : Nat → bi_St → Prop}  {s : bi_St}   (h : at_X12_goes_0 X (d + 1) K E (st_p s 77 7 ((st_g s 77 7) + (1 : Int32)))) : at_X12_goes_37 X (d + 1) K E s  := by
  show bi_T _ _ _ _ _
  refine bi_Tr 7 (s' := (0, [(0, .ref 77)], [], st_mm (st_p s 77 7 ((st_g s 77 7) + (1 : Int32))))) rfl ?_
  exact bi_Tww h rfl rfl ⟨rfl, trivial⟩
theorem go_X12_goes_337 {X : bi_X} {d : Nat} {K : bi_St → Prop} {E : Nat → bi_St → Prop}  {s : bi_St}   (h : K (st_p s 77 10 ((st_g s 77 7) - (st_g s 77 9)))) : at_X12_goes_337 X (d + 1) K E s  := by
  show bi_T _ _ _ _ _
  refine bi_Tr 7 (s' := (350, [(0, .ref 77)], [], st_mm (st_p s 77 10 ((st_g s 77 7) - (st_g s 77 9))))) rfl ?_
  exact bi_Tv rfl rfl (Or.inl ⟨_, rfl, h⟩)
theorem go_X12_goes_187 {X : bi_X} {d : Nat} {K : bi_St → Prop} {E : Nat → bi_St → Prop}  {s : bi_St}   (h : cI X d 169 [.ref 77, .int (st_g s 77 7)] s (fun (r6 : Int32) (s6 : bi_St) => cI X d 171 [.int r6] s6 (fun (r7 : Int32) (s7 : bi_St) => ((r7 = 0) → at_X12_goes_337 X (d + 1) K E (st_p s7 77 8 (2 : Int32))) ∧ (¬ (r7 = 0) → (((4 : Int32) ≤ ((st_g s7 77 7) - (st_g s7 77 9))) → at_X12_goes_237 X (d + 1) K E s7) ∧ (¬ ((4 : Int32) ≤ ((st_g s7 77 7) - (st_g s7 77 9))) → cI X d 169 [.ref 77, .int (st_g s7 77 7)] s7 (fun (r8 : Int32) (s8 : bi_St) => at_X12_goes_237 X (d + 1) K E (st_p s8 77 11 ((((10 : Int32) * (st_g s7 77 11)) + r8) - (48 : Int32)))) (fun _ _ => False)))) (fun _ _ => False)) (fun _ _ => False)) : at_X12_goes_187 X (d + 1) K E s  := by
  show bi_T _ _ _ _ _
  refine bi_Tr 3 (s' := (192, [(0, .ref 77)], [.int (st_g s 77 7), .ref 77], st_mm s)) rfl ?_
  refine bi_TcI (as := [.ref 77, .int (st_g s 77 7)]) rfl rfl ?_
  refine cI.mono h (fun r6 s6 h => ?_) (fun _ _ h => h.elim)
  refine bi_TcI (as := [.int r6]) rfl rfl ?_
  refine cI.mono h (fun r7 s7 h => ?_) (fun _ _ h => h.elim)
  refine bi_Tr 1 (s' := ((if r7 = 0 then 250 else 201), [(0, .ref 77)], [], st_mm s7)) rfl (bi_Tif (fun hc => ?_) (fun hc => ?_))
  · have h := h.1 hc
    refine bi_Tr 4 (s' := (337, [(0, .ref 77)], [], st_mm (st_p s7 77 8 (2 : Int32)))) rfl ?_
    exact bi_Tww h rfl rfl ⟨rfl, trivial⟩
  · have h := h.2 hc
    refine bi_Tr 7 (s' := ((if (4 : Int32) ≤ ((st_g s7 77 7) - (st_g s7 77 9)) then 237 else 214), [(0, .ref 77)], [], st_mm s7)) rfl (bi_Tif (fun hc => ?_) (fun hc => ?_))
    · have h := h.1 hc
      exact bi_Tww h rfl rfl ⟨rfl, trivial⟩
    · have h := h.2 hc
      refine bi_Tr 8 (s' := (227, [(0, .ref 77)], [.int (st_g s7 77 7), .ref 77, .int ((10 : Int32) * (st_g s7 77 11)), .ref 77], st_mm s7)) rfl ?_
      refine bi_TcI (as := [.ref 77, .int (st_g s7 77 7)]) rfl rfl ?_
      refine cI.mono h (fun r8 s8 h => ?_) (fun _ _ h => h.elim)
      refine bi_Tr 4 (s' := (237, [(0, .ref 77)], [], st_mm (st_p s8 77 11 ((((10 : Int32) * (st_g s7 77 11)) + r8) - (48 : Int32))))) rfl ?_
      exact bi_Tww h rfl rfl ⟨rfl, trivial⟩
theorem go_X12_goes_108 {X : bi_X} {d : Nat} {K : bi_St → Prop} {E : Nat → bi_St → Prop}  {s : bi_St}   (h : cI X d 169 [.ref 77, .int (st_g s 77 7)] s (fun (r9 : Int32) (s9 : bi_St) => cI X d 170 [.int r9] s9 (fun (r10 : Int32) (s10 : bi_St) => ((r10 = 0) → at_X12_goes_337 X (d + 1) K E (st_p s10 77 8 (1 : Int32))) ∧ (¬ (r10 = 0) → (((8 : Int32) ≤ ((st_g s10 77 7) - (st_g s10 77 9))) → at_X12_goes_159 X (d + 1) K E s10) ∧ (¬ ((8 : Int32) ≤ ((st_g s10 77 7) - (st_g s10 77 9))) → cI X d 169 [.ref 77, .int (st_g s10 77 7)] s10 (fun (r11 : Int32) (s11 : bi_St) => at_X12_goes_159 X (d + 1) K E (st_pl s11 77 13 (((st_gl s10 77 13) <<< (((5 : Int32)).toInt64 &&& 63)) ||| ((r11 - (96 : Int32))).toInt64))) (fun _ _ => False)))) (fun _ _ => False)) (fun _ _ => False)) : at_X12_goes_108 X (d + 1) K E s  := by
  show bi_T _ _ _ _ _
  refine bi_Tr 3 (s' := (113, [(0, .ref 77)], [.int (st_g s 77 7), .ref 77], st_mm s)) rfl ?_
  refine bi_TcI (as := [.ref 77, .int (st_g s 77 7)]) rfl rfl ?_
  refine cI.mono h (fun r9 s9 h => ?_) (fun _ _ h => h.elim)
  refine bi_TcI (as := [.int r9]) rfl rfl ?_
  refine cI.mono h (fun r10 s10 h => ?_) (fun _ _ h => h.elim)
  refine bi_Tr 1 (s' := ((if r10 = 0 then 172 else 122), [(0, .ref 77)], [], st_mm s10)) rfl (bi_Tif (fun hc => ?_) (fun hc => ?_))
  · have h := h.1 hc
    refine bi_Tr 4 (s' := (337, [(0, .ref 77)], [], st_mm (st_p s10 77 8 (1 : Int32)))) rfl ?_
    exact bi_Tww h rfl rfl ⟨rfl, trivial⟩
  · have h := h.2 hc
    refine bi_Tr 7 (s' := ((if (8 : Int32) ≤ ((st_g s10 77 7) - (st_g s10 77 9)) then 159 else 136), [(0, .ref 77)], [], st_mm s10)) rfl (bi_Tif (fun hc => ?_) (fun hc => ?_))
    · have h := h.1 hc
      exact bi_Tww h rfl rfl ⟨rfl, trivial⟩
    · have h := h.2 hc
      refine bi_Tr 8 (s' := (148, [(0, .ref 77)], [.int (st_g s10 77 7), .ref 77, .long ((st_gl s10 77 13) <<< (((5 : Int32)).toInt64 &&& 63)), .ref 77], st_mm s10)) rfl ?_
      refine bi_TcI (as := [.ref 77, .int (st_g s10 77 7)]) rfl rfl ?_
      refine cI.mono h (fun r11 s11 h => ?_) (fun _ _ h => h.elim)
      refine bi_Tr 5 (s' := (159, [(0, .ref 77)], [], st_mm (st_pl s11 77 13 (((st_gl s10 77 13) <<< (((5 : Int32)).toInt64 &&& 63)) ||| ((r11 - (96 : Int32))).toInt64)))) rfl ?_
      exact bi_Tww h rfl rfl ⟨rfl, trivial⟩
theorem go_X12_goes_0 {X : bi_X} {d : Nat} {K : bi_St → Prop} {E : Nat → bi_St → Prop}  {s : bi_St}   (h : (((st_g s 77 6) ≤ (st_g s 77 7)) → at_X12_goes_50 X (d + 1) K E s) ∧ (¬ ((st_g s 77 6) ≤ (st_g s 77 7)) → cI X d 169 [.ref 77, .int (st_g s 77 7)] s (fun (r12 : Int32) (s12 : bi_St) => ((r12 = (32 : Int32)) → at_X12_goes_37 X (d + 1) K E s12) ∧ (¬ (r12 = (32 : Int32)) → cI X d 169 [.ref 77, .int (st_g s12 77 7)] s12 (fun (r13 : Int32) (s13 : bi_St) => ((¬ r13 = (10 : Int32)) → at_X12_goes_50 X (d + 1) K E s13) ∧ (¬ (¬ r13 = (10 : Int32)) → at_X12_goes_37 X (d + 1) K E s13)) (fun _ _ => False))) (fun _ _ => False))) : at_X12_goes_0 X (d + 1) K E s  := by
  show bi_T _ _ _ _ _
  refine bi_Tr 5 (s' := ((if (st_g s 77 6) ≤ (st_g s 77 7) then 50 else 11), [(0, .ref 77)], [], st_mm s)) rfl (bi_Tif (fun hc => ?_) (fun hc => ?_))
  · have h := h.1 hc
    exact bi_Tww h rfl rfl ⟨rfl, trivial⟩
  · have h := h.2 hc
    refine bi_Tr 3 (s' := (16, [(0, .ref 77)], [.int (st_g s 77 7), .ref 77], st_mm s)) rfl ?_
    refine bi_TcI (as := [.ref 77, .int (st_g s 77 7)]) rfl rfl ?_
    refine cI.mono h (fun r12 s12 h => ?_) (fun _ _ h => h.elim)
    refine bi_Tr 2 (s' := ((if r12 = (32 : Int32) then 37 else 24), [(0, .ref 77)], [], st_mm s12)) rfl (bi_Tif (fun hc => ?_) (fun hc => ?_))
    · have h := h.1 hc
      exact bi_Tww h rfl rfl ⟨rfl, trivial⟩
    · have h := h.2 hc
      refine bi_Tr 3 (s' := (29, [(0, .ref 77)], [.int (st_g s12 77 7), .ref 77], st_mm s12)) rfl ?_
      refine bi_TcI (as := [.ref 77, .int (st_g s12 77 7)]) rfl rfl ?_
      refine cI.mono h (fun r13 s13 h => ?_) (fun _ _ h => h.elim)
      refine bi_Tr 2 (s' := ((if ¬ r13 = (10 : Int32) then 50 else 37), [(0, .ref 77)], [], st_mm s13)) rfl (bi_Tif (fun hc => ?_) (fun hc => ?_))
      · have h := h.1 hc
        exact bi_Tww h rfl rfl ⟨rfl, trivial⟩
      · have h := h.2 hc
        exact bi_Tww h rfl rfl ⟨rfl, trivial⟩
theorem go_X12_goes_237 {X : bi_X} {d : Nat} {K : bi_St → Prop} {E : Nat → bi_St → Prop}  {s : bi_St}   (h : at_X12_goes_187 X (d + 1) K E (st_p s 77 7 ((st_g s 77 7) + (1 : Int32)))) : at_X12_goes_237 X (d + 1) K E s  := by
  show bi_T _ _ _ _ _
  refine bi_Tr 7 (s' := (187, [(0, .ref 77)], [], st_mm (st_p s 77 7 ((st_g s 77 7) + (1 : Int32))))) rfl ?_
  exact bi_Tww h rfl rfl ⟨rfl, trivial⟩
theorem go_X12_goes_159 {X : bi_X} {d : Nat} {K : bi_St → Prop} {E : Nat → bi_St → Prop}  {s : bi_St}   (h : at_X12_goes_108 X (d + 1) K E (st_p s 77 7 ((st_g s 77 7) + (1 : Int32)))) : at_X12_goes_159 X (d + 1) K E s  := by
  show bi_T _ _ _ _ _
  refine bi_Tr 7 (s' := (108, [(0, .ref 77)], [], st_mm (st_p s 77 7 ((st_g s 77 7) + (1 : Int32))))) rfl ?_
  exact bi_Tww h rfl rfl ⟨rfl, trivial⟩
/-- PolicyRowsModel.goes()V -/
theorem en_X12_goes {X : bi_X} {d : Nat} {K : bi_St → Prop} {E : Nat → bi_St → Prop} {s : bi_St}   (h : (((st_g s 77 6) ≤ (st_g s 77 7)) → at_X12_goes_50 X (d + 1) K E s) ∧ (¬ ((st_g s 77 6) ≤ (st_g s 77 7)) → cI X d 169 [.ref 77, .int (st_g s 77 7)] s (fun (r1 : Int32) (s1 : bi_St) => ((r1 = (32 : Int32)) → at_X12_goes_37 X (d + 1) K E s1) ∧ (¬ (r1 = (32 : Int32)) → cI X d 169 [.ref 77, .int (st_g s1 77 7)] s1 (fun (r2 : Int32) (s2 : bi_St) => ((¬ r2 = (10 : Int32)) → at_X12_goes_50 X (d + 1) K E s2) ∧ (¬ (¬ r2 = (10 : Int32)) → at_X12_goes_37 X (d + 1) K E s2)) (fun _ _ => False))) (fun _ _ => False))) : cV X (d + 1) 172 [.ref 77] s K E := by
  show bi_T _ _ _ _ _
  refine bi_Tr 5 (s' := ((if (st_g s 77 6) ≤ (st_g s 77 7) then 50 else 11), [(0, .ref 77)], [], st_mm s)) rfl (bi_Tif (fun hc => ?_) (fun hc => ?_))
  · have h := h.1 hc
    exact bi_Tww h rfl rfl ⟨rfl, trivial⟩
  · have h := h.2 hc
    refine bi_Tr 3 (s' := (16, [(0, .ref 77)], [.int (st_g s 77 7), .ref 77], st_mm s)) rfl ?_
    refine bi_TcI (as := [.ref 77, .int (st_g s 77 7)]) rfl rfl ?_
    refine cI.mono h (fun r1 s1 h => ?_) (fun _ _ h => h.elim)
    refine bi_Tr 2 (s' := ((if r1 = (32 : Int32) then 37 else 24), [(0, .ref 77)], [], st_mm s1)) rfl (bi_Tif (fun hc => ?_) (fun hc => ?_))
    · have h := h.1 hc
      exact bi_Tww h rfl rfl ⟨rfl, trivial⟩
    · have h := h.2 hc
      refine bi_Tr 3 (s' := (29, [(0, .ref 77)], [.int (st_g s1 77 7), .ref 77], st_mm s1)) rfl ?_
      refine bi_TcI (as := [.ref 77, .int (st_g s1 77 7)]) rfl rfl ?_
      refine cI.mono h (fun r2 s2 h => ?_) (fun _ _ h => h.elim)
      refine bi_Tr 2 (s' := ((if ¬ r2 = (10 : Int32) then 50 else 37), [(0, .ref 77)], [], st_mm s2)) rfl (bi_Tif (fun hc => ?_) (fun hc => ?_))
      · have h := h.1 hc
        exact bi_Tww h rfl rfl ⟨rfl, trivial⟩
      · have h := h.2 hc
        exact bi_Tww h rfl rfl ⟨rfl, trivial⟩
def at_X12_spelled_32 (X : bi_X) (d : Nat) (K : Int64 → bi_St → Prop) (E : Nat → bi_St → Prop) (s : bi_St) (y3 : Int32) (y4 : Int32) (y5 : Int32) (y6 : Int32) (y7 : Int32) (y8 : Int64) : Prop := bi_T X d 173 (32, [(3, .int y3), (4, .int y4), (5, .int y5), (6, .int y6), (7, .int y7), (8, .long y8)], [], st_mm s) (st_RL K E)
def at_X12_spelled_48 (X : bi_X) (d : Nat) (K : Int64 → bi_St → Prop) (E : Nat → bi_St → Prop) (s : bi_St) (y4 : Int32) (y5 : Int32) (y6 : Int32) (y7 : Int32) (y8 : Int64) : Prop := bi_T X d 173 (48, [(4, .int y4), (5, .int y5), (6, .int y6), (7, .int y7), (8, .long y8)], [], st_mm s) (st_RL K E)
def at_X12_spelled_66 (X : bi_X) (d : Nat) (K : Int64 → bi_St → Prop) (E : Nat → bi_St → Prop) (s : bi_St) (y5 : Int32) (y6 : Int32) (y7 : Int32) (y8 : Int64) : Prop := bi_T X d 173 (66, [(5, .int y5), (6, .int y6), (7, .int y7), (8, .long y8)], [], st_mm s) (st_RL K E)
def at_X12_spelled_84 (X : bi_X) (d : Nat) (K : Int64 → bi_St → Prop) (E : Nat → bi_St → Prop) (s : bi_St) (y6 : Int32) (y7 : Int32) (y8 : Int64) : Prop := bi_T X d 173 (84, [(6, .int y6), (7, .int y7), (8, .long y8)], [], st_mm s) (st_RL K E)
def at_X12_spelled_102 (X : bi_X) (d : Nat) (K : Int64 → bi_St → Prop) (E : Nat → bi_St → Prop) (s : bi_St) (y7 : Int32) (y8 : Int64) : Prop := bi_T X d 173 (102, [(7, .int y7), (8, .long y8)], [], st_mm s) (st_RL K E)
def at_X12_spelled_120 (X : bi_X) (d : Nat) (K : Int64 → bi_St → Prop) (E : Nat → bi_St → Prop) (s : bi_St) (y8 : Int64) : Prop := bi_T X d 173 (120, [(8, .long y8)], [], st_mm s) (st_RL K E)
theorem go_X12_spelled_32 {X : bi_X} {d : Nat} {K : Int64 → bi_St → Prop} {E : Nat → bi_St → Prop}  {s : bi_St} {y3 : Int32} {y4 : Int32} {y5 : Int32} {y6 : Int32} {y7 : Int32} {y8 : Int64}  (h : ((y3 = 0) → at_X12_spelled_48 X d K E s (y4) (y5) (y6) (y7) (y8)) ∧ (¬ (y3 = 0) → at_X12_spelled_48 X d K E s (y4) (y5) (y6) (y7) (((y8 <<< (((5 : Int32)).toInt64 &&& 63)) ||| ((y3 - (96 : Int32))).toInt64)))) : at_X12_spelled_32 X d K E s y3 y4 y5 y6 y7 y8 := by
  show bi_T _ _ _ _ _
  refine bi_Tr 2 (s' := ((if y3 = 0 then 48 else 36), [(3, .int y3), (4, .int y4), (5, .int y5), (6, .int y6), (7, .int y7), (8, .long y8)], [], st_mm s)) rfl (bi_Tif (fun hc => ?_) (fun hc => ?_))
  · have h := h.1 hc
    exact bi_Tww h rfl rfl ⟨rfl, rfl, rfl, rfl, rfl, trivial⟩
  · have h := h.2 hc
    refine bi_Tr 9 (s' := (48, [(8, .long ((y8 <<< (((5 : Int32)).toInt64 &&& 63)) ||| ((y3 - (96 : Int32))).toInt64)), (3, .int y3), (4, .int y4), (5, .int y5), (6, .int y6), (7, .int y7)], [], st_mm s)) rfl ?_
    exact bi_Tww h rfl rfl ⟨rfl, rfl, rfl, rfl, rfl, trivial⟩
theorem go_X12_spelled_48 {X : bi_X} {d : Nat} {K : Int64 → bi_St → Prop} {E : Nat → bi_St → Prop}  {s : bi_St} {y4 : Int32} {y5 : Int32} {y6 : Int32} {y7 : Int32} {y8 : Int64}  (h : ((y4 = 0) → at_X12_spelled_66 X d K E s (y5) (y6) (y7) (y8)) ∧ (¬ (y4 = 0) → at_X12_spelled_66 X d K E s (y5) (y6) (y7) (((y8 <<< (((5 : Int32)).toInt64 &&& 63)) ||| ((y4 - (96 : Int32))).toInt64)))) : at_X12_spelled_48 X d K E s y4 y5 y6 y7 y8 := by
  show bi_T _ _ _ _ _
  refine bi_Tr 2 (s' := ((if y4 = 0 then 66 else 53), [(4, .int y4), (5, .int y5), (6, .int y6), (7, .int y7), (8, .long y8)], [], st_mm s)) rfl (bi_Tif (fun hc => ?_) (fun hc => ?_))
  · have h := h.1 hc
    exact bi_Tww h rfl rfl ⟨rfl, rfl, rfl, rfl, trivial⟩
  · have h := h.2 hc
    refine bi_Tr 9 (s' := (66, [(8, .long ((y8 <<< (((5 : Int32)).toInt64 &&& 63)) ||| ((y4 - (96 : Int32))).toInt64)), (4, .int y4), (5, .int y5), (6, .int y6), (7, .int y7)], [], st_mm s)) rfl ?_
    exact bi_Tww h rfl rfl ⟨rfl, rfl, rfl, rfl, trivial⟩
theorem go_X12_spelled_66 {X : bi_X} {d : Nat} {K : Int64 → bi_St → Prop} {E : Nat → bi_St → Prop}  {s : bi_St} {y5 : Int32} {y6 : Int32} {y7 : Int32} {y8 : Int64}  (h : ((y5 = 0) → at_X12_spelled_84 X d K E s (y6) (y7) (y8)) ∧ (¬ (y5 = 0) → at_X12_spelled_84 X d K E s (y6) (y7) (((y8 <<< (((5 : Int32)).toInt64 &&& 63)) ||| ((y5 - (96 : Int32))).toInt64)))) : at_X12_spelled_66 X d K E s y5 y6 y7 y8 := by
  show bi_T _ _ _ _ _
  refine bi_Tr 2 (s' := ((if y5 = 0 then 84 else 71), [(5, .int y5), (6, .int y6), (7, .int y7), (8, .long y8)], [], st_mm s)) rfl (bi_Tif (fun hc => ?_) (fun hc => ?_))
  · have h := h.1 hc
    exact bi_Tww h rfl rfl ⟨rfl, rfl, rfl, trivial⟩
  · have h := h.2 hc
    refine bi_Tr 9 (s' := (84, [(8, .long ((y8 <<< (((5 : Int32)).toInt64 &&& 63)) ||| ((y5 - (96 : Int32))).toInt64)), (5, .int y5), (6, .int y6), (7, .int y7)], [], st_mm s)) rfl ?_
    exact bi_Tww h rfl rfl ⟨rfl, rfl, rfl, trivial⟩
theorem go_X12_spelled_84 {X : bi_X} {d : Nat} {K : Int64 → bi_St → Prop} {E : Nat → bi_St → Prop}  {s : bi_St} {y6 : Int32} {y7 : Int32} {y8 : Int64}  (h : ((y6 = 0) → at_X12_spelled_102 X d K E s (y7) (y8)) ∧ (¬ (y6 = 0) → at_X12_spelled_102 X d K E s (y7) (((y8 <<< (((5 : Int32)).toInt64 &&& 63)) ||| ((y6 - (96 : Int32))).toInt64)))) : at_X12_spelled_84 X d K E s y6 y7 y8 := by
  show bi_T _ _ _ _ _
  refine bi_Tr 2 (s' := ((if y6 = 0 then 102 else 89), [(6, .int y6), (7, .int y7), (8, .long y8)], [], st_mm s)) rfl (bi_Tif (fun hc => ?_) (fun hc => ?_))
  · have h := h.1 hc
    exact bi_Tww h rfl rfl ⟨rfl, rfl, trivial⟩
  · have h := h.2 hc
    refine bi_Tr 9 (s' := (102, [(8, .long ((y8 <<< (((5 : Int32)).toInt64 &&& 63)) ||| ((y6 - (96 : Int32))).toInt64)), (6, .int y6), (7, .int y7)], [], st_mm s)) rfl ?_
    exact bi_Tww h rfl rfl ⟨rfl, rfl, trivial⟩
theorem go_X12_spelled_102 {X : bi_X} {d : Nat} {K : Int64 → bi_St → Prop} {E : Nat → bi_St → Prop}  {s : bi_St} {y7 : Int32} {y8 : Int64}  (h : ((y7 = 0) → at_X12_spelled_120 X d K E s (y8)) ∧ (¬ (y7 = 0) → at_X12_spelled_120 X d K E s (((y8 <<< (((5 : Int32)).toInt64 &&& 63)) ||| ((y7 - (96 : Int32))).toInt64)))) : at_X12_spelled_102 X d K E s y7 y8 := by
  show bi_T _ _ _ _ _
  refine bi_Tr 2 (s' := ((if y7 = 0 then 120 else 107), [(7, .int y7), (8, .long y8)], [], st_mm s)) rfl (bi_Tif (fun hc => ?_) (fun hc => ?_))
  · have h := h.1 hc
    exact bi_Tww h rfl rfl ⟨rfl, trivial⟩
  · have h := h.2 hc
    refine bi_Tr 9 (s' := (120, [(8, .long ((y8 <<< (((5 : Int32)).toInt64 &&& 63)) ||| ((y7 - (96 : Int32))).toInt64)), (7, .int y7)], [], st_mm s)) rfl ?_
    exact bi_Tww h rfl rfl ⟨rfl, trivial⟩
theorem go_X12_spelled_120 {X : bi_X} {d : Nat} {K : Int64 → bi_St → Prop} {E : Nat → bi_St → Prop}  {s : bi_St} {y8 : Int64}  (h : K y8 s) : at_X12_spelled_120 X d K E s y8 := by
  show bi_T _ _ _ _ _
  refine bi_Tr 1 (s' := (122, [(8, .long y8)], [.long y8], st_mm s)) rfl ?_
  exact bi_Tv rfl rfl (Or.inl ⟨_, _, rfl, h⟩)
/-- PolicyRowsModel.spelled(IIIIIIII)J -/
theorem en_X12_spelled {X : bi_X} {d : Nat} {K : Int64 → bi_St → Prop} {E : Nat → bi_St → Prop} {s : bi_St} {x0 : Int32} {x1 : Int32} {x2 : Int32} {x3 : Int32} {x4 : Int32} {x5 : Int32} {x6 : Int32} {x7 : Int32}  (h : ((x2 = 0) → at_X12_spelled_32 X d K E s (x3) (x4) (x5) (x6) (x7) (((((x0).toInt64 - (96 : Int64)) <<< (((5 : Int32)).toInt64 &&& 63)) ||| ((x1 - (96 : Int32))).toInt64))) ∧ (¬ (x2 = 0) → at_X12_spelled_32 X d K E s (x3) (x4) (x5) (x6) (x7) (((((((x0).toInt64 - (96 : Int64)) <<< (((5 : Int32)).toInt64 &&& 63)) ||| ((x1 - (96 : Int32))).toInt64) <<< (((5 : Int32)).toInt64 &&& 63)) ||| ((x2 - (96 : Int32))).toInt64)))) : cL X d 173 [.int x0, .int x1, .int x2, .int x3, .int x4, .int x5, .int x6, .int x7] s K E := by
  show bi_T _ _ _ _ _
  refine bi_Tr 14 (s' := ((if x2 = 0 then 32 else 20), [(8, .long ((((x0).toInt64 - (96 : Int64)) <<< (((5 : Int32)).toInt64 &&& 63)) ||| ((x1 - (96 : Int32))).toInt64)), (0, .int x0), (1, .int x1), (2, .int x2), (3, .int x3), (4, .int x4), (5, .int x5), (6, .int x6), (7, .int x7)], [], st_mm s)) rfl (bi_Tif (fun hc => ?_) (fun hc => ?_))
  · have h := h.1 hc
    exact bi_Tww h rfl rfl ⟨rfl, rfl, rfl, rfl, rfl, rfl, trivial⟩
  · have h := h.2 hc
    refine bi_Tr 9 (s' := (32, [(8, .long ((((((x0).toInt64 - (96 : Int64)) <<< (((5 : Int32)).toInt64 &&& 63)) ||| ((x1 - (96 : Int32))).toInt64) <<< (((5 : Int32)).toInt64 &&& 63)) ||| ((x2 - (96 : Int32))).toInt64)), (0, .int x0), (1, .int x1), (2, .int x2), (3, .int x3), (4, .int x4), (5, .int x5), (6, .int x6), (7, .int x7)], [], st_mm s)) rfl ?_
    exact bi_Tww h rfl rfl ⟨rfl, rfl, rfl, rfl, rfl, rfl, trivial⟩
/-- PolicyRowsModel.letters(I)J -/
theorem en_X12_letters {X : bi_X} {d : Nat} {K : Int64 → bi_St → Prop} {E : Nat → bi_St → Prop} {s : bi_St} {x0 : Int32}  (h : ((x0 = (0 : Int32)) → cL X d 173 [.int (114 : Int32), .int (101 : Int32), .int (97 : Int32), .int (100 : Int32), .int (0 : Int32), .int (0 : Int32), .int (0 : Int32), .int (0 : Int32)] s (fun (r1 : Int64) (s1 : bi_St) => K r1 s1) (fun _ _ => False)) ∧ (¬ (x0 = (0 : Int32)) → ((x0 = (1 : Int32)) → cL X d 173 [.int (105 : Int32), .int (110 : Int32), .int (115 : Int32), .int (101 : Int32), .int (114 : Int32), .int (116 : Int32), .int (0 : Int32), .int (0 : Int32)] s (fun (r2 : Int64) (s2 : bi_St) => K r2 s2) (fun _ _ => False)) ∧ (¬ (x0 = (1 : Int32)) → ((x0 = (2 : Int32)) → cL X d 173 [.int (117 : Int32), .int (112 : Int32), .int (100 : Int32), .int (97 : Int32), .int (116 : Int32), .int (101 : Int32), .int (0 : Int32), .int (0 : Int32)] s (fun (r3 : Int64) (s3 : bi_St) => K r3 s3) (fun _ _ => False)) ∧ (¬ (x0 = (2 : Int32)) → ((x0 = (3 : Int32)) → cL X d 173 [.int (100 : Int32), .int (101 : Int32), .int (108 : Int32), .int (101 : Int32), .int (116 : Int32), .int (101 : Int32), .int (0 : Int32), .int (0 : Int32)] s (fun (r4 : Int64) (s4 : bi_St) => K r4 s4) (fun _ _ => False)) ∧ (¬ (x0 = (3 : Int32)) → ((x0 = (4 : Int32)) → cL X d 173 [.int (97 : Int32), .int (110 : Int32), .int (121 : Int32), .int (0 : Int32), .int (0 : Int32), .int (0 : Int32), .int (0 : Int32), .int (0 : Int32)] s (fun (r5 : Int64) (s5 : bi_St) => K r5 s5) (fun _ _ => False)) ∧ (¬ (x0 = (4 : Int32)) → ((x0 = (5 : Int32)) → cL X d 173 [.int (99 : Int32), .int (111 : Int32), .int (108 : Int32), .int (117 : Int32), .int (109 : Int32), .int (110 : Int32), .int (115 : Int32), .int (0 : Int32)] s (fun (r6 : Int64) (s6 : bi_St) => K r6 s6) (fun _ _ => False)) ∧ (¬ (x0 = (5 : Int32)) → ((x0 = (6 : Int32)) → cL X d 173 [.int (114 : Int32), .int (111 : Int32), .int (108 : Int32), .int (101 : Int32), .int (0 : Int32), .int (0 : Int32), .int (0 : Int32), .int (0 : Int32)] s (fun (r7 : Int64) (s7 : bi_St) => K r7 s7) (fun _ _ => False)) ∧ (¬ (x0 = (6 : Int32)) → ((x0 = (7 : Int32)) → cL X d 173 [.int (114 : Int32), .int (111 : Int32), .int (119 : Int32), .int (0 : Int32), .int (0 : Int32), .int (0 : Int32), .int (0 : Int32), .int (0 : Int32)] s (fun (r8 : Int64) (s8 : bi_St) => K r8 s8) (fun _ _ => False)) ∧ (¬ (x0 = (7 : Int32)) → ((x0 = (8 : Int32)) → cL X d 173 [.int (112 : Int32), .int (101 : Int32), .int (114 : Int32), .int (109 : Int32), .int (105 : Int32), .int (116 : Int32), .int (0 : Int32), .int (0 : Int32)] s (fun (r9 : Int64) (s9 : bi_St) => K r9 s9) (fun _ _ => False)) ∧ (¬ (x0 = (8 : Int32)) → ((x0 = (9 : Int32)) → cL X d 173 [.int (114 : Int32), .int (101 : Int32), .int (115 : Int32), .int (116 : Int32), .int (114 : Int32), .int (105 : Int32), .int (99 : Int32), .int (116 : Int32)] s (fun (r10 : Int64) (s10 : bi_St) => K r10 s10) (fun _ _ => False)) ∧ (¬ (x0 = (9 : Int32)) → ((x0 = (10 : Int32)) → cL X d 173 [.int (97 : Int32), .int (108 : Int32), .int (108 : Int32), .int (0 : Int32), .int (0 : Int32), .int (0 : Int32), .int (0 : Int32), .int (0 : Int32)] s (fun (r11 : Int64) (s11 : bi_St) => K r11 s11) (fun _ _ => False)) ∧ (¬ (x0 = (10 : Int32)) → ((x0 = (11 : Int32)) → cL X d 173 [.int (117 : Int32), .int (115 : Int32), .int (105 : Int32), .int (110 : Int32), .int (103 : Int32), .int (0 : Int32), .int (0 : Int32), .int (0 : Int32)] s (fun (r12 : Int64) (s12 : bi_St) => K r12 s12) (fun _ _ => False)) ∧ (¬ (x0 = (11 : Int32)) → ((x0 = (12 : Int32)) → cL X d 173 [.int (99 : Int32), .int (104 : Int32), .int (101 : Int32), .int (99 : Int32), .int (107 : Int32), .int (0 : Int32), .int (0 : Int32), .int (0 : Int32)] s (fun (r13 : Int64) (s13 : bi_St) => K r13 s13) (fun _ _ => False)) ∧ (¬ (x0 = (12 : Int32)) → ((x0 = (13 : Int32)) → cL X d 173 [.int (118 : Int32), .int (105 : Int32), .int (101 : Int32), .int (119 : Int32), .int (0 : Int32), .int (0 : Int32), .int (0 : Int32), .int (0 : Int32)] s (fun (r14 : Int64) (s14 : bi_St) => K r14 s14) (fun _ _ => False)) ∧ (¬ (x0 = (13 : Int32)) → ((x0 = (14 : Int32)) → cL X d 173 [.int (99 : Int32), .int (97 : Int32), .int (108 : Int32), .int (108 : Int32), .int (101 : Int32), .int (114 : Int32), .int (0 : Int32), .int (0 : Int32)] s (fun (r15 : Int64) (s15 : bi_St) => K r15 s15) (fun _ _ => False)) ∧ (¬ (x0 = (14 : Int32)) → ((x0 = (15 : Int32)) → cL X d 173 [.int (111 : Int32), .int (119 : Int32), .int (110 : Int32), .int (101 : Int32), .int (114 : Int32), .int (0 : Int32), .int (0 : Int32), .int (0 : Int32)] s (fun (r16 : Int64) (s16 : bi_St) => K r16 s16) (fun _ _ => False)) ∧ (¬ (x0 = (15 : Int32)) → ((x0 = (16 : Int32)) → cL X d 173 [.int (98 : Int32), .int (97 : Int32), .int (114 : Int32), .int (114 : Int32), .int (105 : Int32), .int (101 : Int32), .int (114 : Int32), .int (0 : Int32)] s (fun (r17 : Int64) (s17 : bi_St) => K r17 s17) (fun _ _ => False)) ∧ (¬ (x0 = (16 : Int32)) → ((x0 = (17 : Int32)) → cL X d 173 [.int (111 : Int32), .int (102 : Int32), .int (0 : Int32), .int (0 : Int32), .int (0 : Int32), .int (0 : Int32), .int (0 : Int32), .int (0 : Int32)] s (fun (r18 : Int64) (s18 : bi_St) => K r18 s18) (fun _ _ => False)) ∧ (¬ (x0 = (17 : Int32)) → ((x0 = (18 : Int32)) → cL X d 173 [.int (119 : Int32), .int (104 : Int32), .int (101 : Int32), .int (114 : Int32), .int (101 : Int32), .int (0 : Int32), .int (0 : Int32), .int (0 : Int32)] s (fun (r19 : Int64) (s19 : bi_St) => K r19 s19) (fun _ _ => False)) ∧ (¬ (x0 = (18 : Int32)) → ((x0 = (19 : Int32)) → cL X d 173 [.int (109 : Int32), .int (101 : Int32), .int (0 : Int32), .int (0 : Int32), .int (0 : Int32), .int (0 : Int32), .int (0 : Int32), .int (0 : Int32)] s (fun (r20 : Int64) (s20 : bi_St) => K r20 s20) (fun _ _ => False)) ∧ (¬ (x0 = (19 : Int32)) → ((x0 = (20 : Int32)) → cL X d 173 [.int (104 : Int32), .int (97 : Int32), .int (115 : Int32), .int (0 : Int32), .int (0 : Int32), .int (0 : Int32), .int (0 : Int32), .int (0 : Int32)] s (fun (r21 : Int64) (s21 : bi_St) => K r21 s21) (fun _ _ => False)) ∧ (¬ (x0 = (20 : Int32)) → ((x0 = (21 : Int32)) → cL X d 173 [.int (112 : Int32), .int (101 : Int32), .int (101 : Int32), .int (107 : Int32), .int (0 : Int32), .int (0 : Int32), .int (0 : Int32), .int (0 : Int32)] s (fun (r22 : Int64) (s22 : bi_St) => K r22 s22) (fun _ _ => False)) ∧ (¬ (x0 = (21 : Int32)) → ((x0 = (22 : Int32)) → cL X d 173 [.int (97 : Int32), .int (110 : Int32), .int (100 : Int32), .int (0 : Int32), .int (0 : Int32), .int (0 : Int32), .int (0 : Int32), .int (0 : Int32)] s (fun (r23 : Int64) (s23 : bi_St) => K r23 s23) (fun _ _ => False)) ∧ (¬ (x0 = (22 : Int32)) → ((x0 = (23 : Int32)) → cL X d 173 [.int (111 : Int32), .int (114 : Int32), .int (0 : Int32), .int (0 : Int32), .int (0 : Int32), .int (0 : Int32), .int (0 : Int32), .int (0 : Int32)] s (fun (r24 : Int64) (s24 : bi_St) => K r24 s24) (fun _ _ => False)) ∧ (¬ (x0 = (23 : Int32)) → cL X d 173 [.int (110 : Int32), .int (111 : Int32), .int (116 : Int32), .int (0 : Int32), .int (0 : Int32), .int (0 : Int32), .int (0 : Int32), .int (0 : Int32)] s (fun (r25 : Int64) (s25 : bi_St) => K r25 s25) (fun _ _ => False)))))))))))))))))))))))))) : cL X (d + 1) 174 [.int x0] s K E := by
  show bi_T _ _ _ _ _
  refine bi_Tr 1 (s' := (1, [(0, .int x0)], [.int x0], st_mm s)) rfl ?_
  refine bi_Tsw rfl (fun t ht => ?_) (bi_swn (b := 509) rfl (by decide) (by decide))
  by_cases hc : x0 = (0 : Int32)
  · rw [hc] at ht; cases ht
    have h := h.1 hc
    refine bi_Tr 8 (s' := (124, [(0, .int x0)], [.int (0 : Int32), .int (0 : Int32), .int (0 : Int32), .int (0 : Int32), .int (100 : Int32), .int (97 : Int32), .int (101 : Int32), .int (114 : Int32)], st_mm s)) rfl ?_
    refine bi_TcL (as := [.int (114 : Int32), .int (101 : Int32), .int (97 : Int32), .int (100 : Int32), .int (0 : Int32), .int (0 : Int32), .int (0 : Int32), .int (0 : Int32)]) rfl rfl ?_
    refine cL.mono h (fun r1 s1 h => ?_) (fun _ _ h => h.elim)
    exact bi_Tv rfl rfl (Or.inl ⟨_, _, rfl, h⟩)
  have h := h.2 hc
  have hn0 := lv_neT hc (a := 0) rfl
  by_cases hc : x0 = (1 : Int32)
  · rw [hc] at ht; cases ht
    have h := h.1 hc
    refine bi_Tr 8 (s' := (142, [(0, .int x0)], [.int (0 : Int32), .int (0 : Int32), .int (116 : Int32), .int (114 : Int32), .int (101 : Int32), .int (115 : Int32), .int (110 : Int32), .int (105 : Int32)], st_mm s)) rfl ?_
    refine bi_TcL (as := [.int (105 : Int32), .int (110 : Int32), .int (115 : Int32), .int (101 : Int32), .int (114 : Int32), .int (116 : Int32), .int (0 : Int32), .int (0 : Int32)]) rfl rfl ?_
    refine cL.mono h (fun r2 s2 h => ?_) (fun _ _ h => h.elim)
    exact bi_Tv rfl rfl (Or.inl ⟨_, _, rfl, h⟩)
  have h := h.2 hc
  have hn1 := lv_neT hc (a := 1) rfl
  by_cases hc : x0 = (2 : Int32)
  · rw [hc] at ht; cases ht
    have h := h.1 hc
    refine bi_Tr 8 (s' := (160, [(0, .int x0)], [.int (0 : Int32), .int (0 : Int32), .int (101 : Int32), .int (116 : Int32), .int (97 : Int32), .int (100 : Int32), .int (112 : Int32), .int (117 : Int32)], st_mm s)) rfl ?_
    refine bi_TcL (as := [.int (117 : Int32), .int (112 : Int32), .int (100 : Int32), .int (97 : Int32), .int (116 : Int32), .int (101 : Int32), .int (0 : Int32), .int (0 : Int32)]) rfl rfl ?_
    refine cL.mono h (fun r3 s3 h => ?_) (fun _ _ h => h.elim)
    exact bi_Tv rfl rfl (Or.inl ⟨_, _, rfl, h⟩)
  have h := h.2 hc
  have hn2 := lv_neT hc (a := 2) rfl
  by_cases hc : x0 = (3 : Int32)
  · rw [hc] at ht; cases ht
    have h := h.1 hc
    refine bi_Tr 8 (s' := (178, [(0, .int x0)], [.int (0 : Int32), .int (0 : Int32), .int (101 : Int32), .int (116 : Int32), .int (101 : Int32), .int (108 : Int32), .int (101 : Int32), .int (100 : Int32)], st_mm s)) rfl ?_
    refine bi_TcL (as := [.int (100 : Int32), .int (101 : Int32), .int (108 : Int32), .int (101 : Int32), .int (116 : Int32), .int (101 : Int32), .int (0 : Int32), .int (0 : Int32)]) rfl rfl ?_
    refine cL.mono h (fun r4 s4 h => ?_) (fun _ _ h => h.elim)
    exact bi_Tv rfl rfl (Or.inl ⟨_, _, rfl, h⟩)
  have h := h.2 hc
  have hn3 := lv_neT hc (a := 3) rfl
  by_cases hc : x0 = (4 : Int32)
  · rw [hc] at ht; cases ht
    have h := h.1 hc
    refine bi_Tr 8 (s' := (193, [(0, .int x0)], [.int (0 : Int32), .int (0 : Int32), .int (0 : Int32), .int (0 : Int32), .int (0 : Int32), .int (121 : Int32), .int (110 : Int32), .int (97 : Int32)], st_mm s)) rfl ?_
    refine bi_TcL (as := [.int (97 : Int32), .int (110 : Int32), .int (121 : Int32), .int (0 : Int32), .int (0 : Int32), .int (0 : Int32), .int (0 : Int32), .int (0 : Int32)]) rfl rfl ?_
    refine cL.mono h (fun r5 s5 h => ?_) (fun _ _ h => h.elim)
    exact bi_Tv rfl rfl (Or.inl ⟨_, _, rfl, h⟩)
  have h := h.2 hc
  have hn4 := lv_neT hc (a := 4) rfl
  by_cases hc : x0 = (5 : Int32)
  · rw [hc] at ht; cases ht
    have h := h.1 hc
    refine bi_Tr 8 (s' := (212, [(0, .int x0)], [.int (0 : Int32), .int (115 : Int32), .int (110 : Int32), .int (109 : Int32), .int (117 : Int32), .int (108 : Int32), .int (111 : Int32), .int (99 : Int32)], st_mm s)) rfl ?_
    refine bi_TcL (as := [.int (99 : Int32), .int (111 : Int32), .int (108 : Int32), .int (117 : Int32), .int (109 : Int32), .int (110 : Int32), .int (115 : Int32), .int (0 : Int32)]) rfl rfl ?_
    refine cL.mono h (fun r6 s6 h => ?_) (fun _ _ h => h.elim)
    exact bi_Tv rfl rfl (Or.inl ⟨_, _, rfl, h⟩)
  have h := h.2 hc
  have hn5 := lv_neT hc (a := 5) rfl
  by_cases hc : x0 = (6 : Int32)
  · rw [hc] at ht; cases ht
    have h := h.1 hc
    refine bi_Tr 8 (s' := (228, [(0, .int x0)], [.int (0 : Int32), .int (0 : Int32), .int (0 : Int32), .int (0 : Int32), .int (101 : Int32), .int (108 : Int32), .int (111 : Int32), .int (114 : Int32)], st_mm s)) rfl ?_
    refine bi_TcL (as := [.int (114 : Int32), .int (111 : Int32), .int (108 : Int32), .int (101 : Int32), .int (0 : Int32), .int (0 : Int32), .int (0 : Int32), .int (0 : Int32)]) rfl rfl ?_
    refine cL.mono h (fun r7 s7 h => ?_) (fun _ _ h => h.elim)
    exact bi_Tv rfl rfl (Or.inl ⟨_, _, rfl, h⟩)
  have h := h.2 hc
  have hn6 := lv_neT hc (a := 6) rfl
  by_cases hc : x0 = (7 : Int32)
  · rw [hc] at ht; cases ht
    have h := h.1 hc
    refine bi_Tr 8 (s' := (243, [(0, .int x0)], [.int (0 : Int32), .int (0 : Int32), .int (0 : Int32), .int (0 : Int32), .int (0 : Int32), .int (119 : Int32), .int (111 : Int32), .int (114 : Int32)], st_mm s)) rfl ?_
    refine bi_TcL (as := [.int (114 : Int32), .int (111 : Int32), .int (119 : Int32), .int (0 : Int32), .int (0 : Int32), .int (0 : Int32), .int (0 : Int32), .int (0 : Int32)]) rfl rfl ?_
    refine cL.mono h (fun r8 s8 h => ?_) (fun _ _ h => h.elim)
    exact bi_Tv rfl rfl (Or.inl ⟨_, _, rfl, h⟩)
  have h := h.2 hc
  have hn7 := lv_neT hc (a := 7) rfl
  by_cases hc : x0 = (8 : Int32)
  · rw [hc] at ht; cases ht
    have h := h.1 hc
    refine bi_Tr 8 (s' := (261, [(0, .int x0)], [.int (0 : Int32), .int (0 : Int32), .int (116 : Int32), .int (105 : Int32), .int (109 : Int32), .int (114 : Int32), .int (101 : Int32), .int (112 : Int32)], st_mm s)) rfl ?_
    refine bi_TcL (as := [.int (112 : Int32), .int (101 : Int32), .int (114 : Int32), .int (109 : Int32), .int (105 : Int32), .int (116 : Int32), .int (0 : Int32), .int (0 : Int32)]) rfl rfl ?_
    refine cL.mono h (fun r9 s9 h => ?_) (fun _ _ h => h.elim)
    exact bi_Tv rfl rfl (Or.inl ⟨_, _, rfl, h⟩)
  have h := h.2 hc
  have hn8 := lv_neT hc (a := 8) rfl
  by_cases hc : x0 = (9 : Int32)
  · rw [hc] at ht; cases ht
    have h := h.1 hc
    refine bi_Tr 8 (s' := (281, [(0, .int x0)], [.int (116 : Int32), .int (99 : Int32), .int (105 : Int32), .int (114 : Int32), .int (116 : Int32), .int (115 : Int32), .int (101 : Int32), .int (114 : Int32)], st_mm s)) rfl ?_
    refine bi_TcL (as := [.int (114 : Int32), .int (101 : Int32), .int (115 : Int32), .int (116 : Int32), .int (114 : Int32), .int (105 : Int32), .int (99 : Int32), .int (116 : Int32)]) rfl rfl ?_
    refine cL.mono h (fun r10 s10 h => ?_) (fun _ _ h => h.elim)
    exact bi_Tv rfl rfl (Or.inl ⟨_, _, rfl, h⟩)
  have h := h.2 hc
  have hn9 := lv_neT hc (a := 9) rfl
  by_cases hc : x0 = (10 : Int32)
  · rw [hc] at ht; cases ht
    have h := h.1 hc
    refine bi_Tr 8 (s' := (296, [(0, .int x0)], [.int (0 : Int32), .int (0 : Int32), .int (0 : Int32), .int (0 : Int32), .int (0 : Int32), .int (108 : Int32), .int (108 : Int32), .int (97 : Int32)], st_mm s)) rfl ?_
    refine bi_TcL (as := [.int (97 : Int32), .int (108 : Int32), .int (108 : Int32), .int (0 : Int32), .int (0 : Int32), .int (0 : Int32), .int (0 : Int32), .int (0 : Int32)]) rfl rfl ?_
    refine cL.mono h (fun r11 s11 h => ?_) (fun _ _ h => h.elim)
    exact bi_Tv rfl rfl (Or.inl ⟨_, _, rfl, h⟩)
  have h := h.2 hc
  have hn10 := lv_neT hc (a := 10) rfl
  by_cases hc : x0 = (11 : Int32)
  · rw [hc] at ht; cases ht
    have h := h.1 hc
    refine bi_Tr 8 (s' := (313, [(0, .int x0)], [.int (0 : Int32), .int (0 : Int32), .int (0 : Int32), .int (103 : Int32), .int (110 : Int32), .int (105 : Int32), .int (115 : Int32), .int (117 : Int32)], st_mm s)) rfl ?_
    refine bi_TcL (as := [.int (117 : Int32), .int (115 : Int32), .int (105 : Int32), .int (110 : Int32), .int (103 : Int32), .int (0 : Int32), .int (0 : Int32), .int (0 : Int32)]) rfl rfl ?_
    refine cL.mono h (fun r12 s12 h => ?_) (fun _ _ h => h.elim)
    exact bi_Tv rfl rfl (Or.inl ⟨_, _, rfl, h⟩)
  have h := h.2 hc
  have hn11 := lv_neT hc (a := 11) rfl
  by_cases hc : x0 = (12 : Int32)
  · rw [hc] at ht; cases ht
    have h := h.1 hc
    refine bi_Tr 8 (s' := (330, [(0, .int x0)], [.int (0 : Int32), .int (0 : Int32), .int (0 : Int32), .int (107 : Int32), .int (99 : Int32), .int (101 : Int32), .int (104 : Int32), .int (99 : Int32)], st_mm s)) rfl ?_
    refine bi_TcL (as := [.int (99 : Int32), .int (104 : Int32), .int (101 : Int32), .int (99 : Int32), .int (107 : Int32), .int (0 : Int32), .int (0 : Int32), .int (0 : Int32)]) rfl rfl ?_
    refine cL.mono h (fun r13 s13 h => ?_) (fun _ _ h => h.elim)
    exact bi_Tv rfl rfl (Or.inl ⟨_, _, rfl, h⟩)
  have h := h.2 hc
  have hn12 := lv_neT hc (a := 12) rfl
  by_cases hc : x0 = (13 : Int32)
  · rw [hc] at ht; cases ht
    have h := h.1 hc
    refine bi_Tr 8 (s' := (346, [(0, .int x0)], [.int (0 : Int32), .int (0 : Int32), .int (0 : Int32), .int (0 : Int32), .int (119 : Int32), .int (101 : Int32), .int (105 : Int32), .int (118 : Int32)], st_mm s)) rfl ?_
    refine bi_TcL (as := [.int (118 : Int32), .int (105 : Int32), .int (101 : Int32), .int (119 : Int32), .int (0 : Int32), .int (0 : Int32), .int (0 : Int32), .int (0 : Int32)]) rfl rfl ?_
    refine cL.mono h (fun r14 s14 h => ?_) (fun _ _ h => h.elim)
    exact bi_Tv rfl rfl (Or.inl ⟨_, _, rfl, h⟩)
  have h := h.2 hc
  have hn13 := lv_neT hc (a := 13) rfl
  by_cases hc : x0 = (14 : Int32)
  · rw [hc] at ht; cases ht
    have h := h.1 hc
    refine bi_Tr 8 (s' := (364, [(0, .int x0)], [.int (0 : Int32), .int (0 : Int32), .int (114 : Int32), .int (101 : Int32), .int (108 : Int32), .int (108 : Int32), .int (97 : Int32), .int (99 : Int32)], st_mm s)) rfl ?_
    refine bi_TcL (as := [.int (99 : Int32), .int (97 : Int32), .int (108 : Int32), .int (108 : Int32), .int (101 : Int32), .int (114 : Int32), .int (0 : Int32), .int (0 : Int32)]) rfl rfl ?_
    refine cL.mono h (fun r15 s15 h => ?_) (fun _ _ h => h.elim)
    exact bi_Tv rfl rfl (Or.inl ⟨_, _, rfl, h⟩)
  have h := h.2 hc
  have hn14 := lv_neT hc (a := 14) rfl
  by_cases hc : x0 = (15 : Int32)
  · rw [hc] at ht; cases ht
    have h := h.1 hc
    refine bi_Tr 8 (s' := (381, [(0, .int x0)], [.int (0 : Int32), .int (0 : Int32), .int (0 : Int32), .int (114 : Int32), .int (101 : Int32), .int (110 : Int32), .int (119 : Int32), .int (111 : Int32)], st_mm s)) rfl ?_
    refine bi_TcL (as := [.int (111 : Int32), .int (119 : Int32), .int (110 : Int32), .int (101 : Int32), .int (114 : Int32), .int (0 : Int32), .int (0 : Int32), .int (0 : Int32)]) rfl rfl ?_
    refine cL.mono h (fun r16 s16 h => ?_) (fun _ _ h => h.elim)
    exact bi_Tv rfl rfl (Or.inl ⟨_, _, rfl, h⟩)
  have h := h.2 hc
  have hn15 := lv_neT hc (a := 15) rfl
  by_cases hc : x0 = (16 : Int32)
  · rw [hc] at ht; cases ht
    have h := h.1 hc
    refine bi_Tr 8 (s' := (400, [(0, .int x0)], [.int (0 : Int32), .int (114 : Int32), .int (101 : Int32), .int (105 : Int32), .int (114 : Int32), .int (114 : Int32), .int (97 : Int32), .int (98 : Int32)], st_mm s)) rfl ?_
    refine bi_TcL (as := [.int (98 : Int32), .int (97 : Int32), .int (114 : Int32), .int (114 : Int32), .int (105 : Int32), .int (101 : Int32), .int (114 : Int32), .int (0 : Int32)]) rfl rfl ?_
    refine cL.mono h (fun r17 s17 h => ?_) (fun _ _ h => h.elim)
    exact bi_Tv rfl rfl (Or.inl ⟨_, _, rfl, h⟩)
  have h := h.2 hc
  have hn16 := lv_neT hc (a := 16) rfl
  by_cases hc : x0 = (17 : Int32)
  · rw [hc] at ht; cases ht
    have h := h.1 hc
    refine bi_Tr 8 (s' := (414, [(0, .int x0)], [.int (0 : Int32), .int (0 : Int32), .int (0 : Int32), .int (0 : Int32), .int (0 : Int32), .int (0 : Int32), .int (102 : Int32), .int (111 : Int32)], st_mm s)) rfl ?_
    refine bi_TcL (as := [.int (111 : Int32), .int (102 : Int32), .int (0 : Int32), .int (0 : Int32), .int (0 : Int32), .int (0 : Int32), .int (0 : Int32), .int (0 : Int32)]) rfl rfl ?_
    refine cL.mono h (fun r18 s18 h => ?_) (fun _ _ h => h.elim)
    exact bi_Tv rfl rfl (Or.inl ⟨_, _, rfl, h⟩)
  have h := h.2 hc
  have hn17 := lv_neT hc (a := 17) rfl
  by_cases hc : x0 = (18 : Int32)
  · rw [hc] at ht; cases ht
    have h := h.1 hc
    refine bi_Tr 8 (s' := (431, [(0, .int x0)], [.int (0 : Int32), .int (0 : Int32), .int (0 : Int32), .int (101 : Int32), .int (114 : Int32), .int (101 : Int32), .int (104 : Int32), .int (119 : Int32)], st_mm s)) rfl ?_
    refine bi_TcL (as := [.int (119 : Int32), .int (104 : Int32), .int (101 : Int32), .int (114 : Int32), .int (101 : Int32), .int (0 : Int32), .int (0 : Int32), .int (0 : Int32)]) rfl rfl ?_
    refine cL.mono h (fun r19 s19 h => ?_) (fun _ _ h => h.elim)
    exact bi_Tv rfl rfl (Or.inl ⟨_, _, rfl, h⟩)
  have h := h.2 hc
  have hn18 := lv_neT hc (a := 18) rfl
  by_cases hc : x0 = (19 : Int32)
  · rw [hc] at ht; cases ht
    have h := h.1 hc
    refine bi_Tr 8 (s' := (445, [(0, .int x0)], [.int (0 : Int32), .int (0 : Int32), .int (0 : Int32), .int (0 : Int32), .int (0 : Int32), .int (0 : Int32), .int (101 : Int32), .int (109 : Int32)], st_mm s)) rfl ?_
    refine bi_TcL (as := [.int (109 : Int32), .int (101 : Int32), .int (0 : Int32), .int (0 : Int32), .int (0 : Int32), .int (0 : Int32), .int (0 : Int32), .int (0 : Int32)]) rfl rfl ?_
    refine cL.mono h (fun r20 s20 h => ?_) (fun _ _ h => h.elim)
    exact bi_Tv rfl rfl (Or.inl ⟨_, _, rfl, h⟩)
  have h := h.2 hc
  have hn19 := lv_neT hc (a := 19) rfl
  by_cases hc : x0 = (20 : Int32)
  · rw [hc] at ht; cases ht
    have h := h.1 hc
    refine bi_Tr 8 (s' := (460, [(0, .int x0)], [.int (0 : Int32), .int (0 : Int32), .int (0 : Int32), .int (0 : Int32), .int (0 : Int32), .int (115 : Int32), .int (97 : Int32), .int (104 : Int32)], st_mm s)) rfl ?_
    refine bi_TcL (as := [.int (104 : Int32), .int (97 : Int32), .int (115 : Int32), .int (0 : Int32), .int (0 : Int32), .int (0 : Int32), .int (0 : Int32), .int (0 : Int32)]) rfl rfl ?_
    refine cL.mono h (fun r21 s21 h => ?_) (fun _ _ h => h.elim)
    exact bi_Tv rfl rfl (Or.inl ⟨_, _, rfl, h⟩)
  have h := h.2 hc
  have hn20 := lv_neT hc (a := 20) rfl
  by_cases hc : x0 = (21 : Int32)
  · rw [hc] at ht; cases ht
    have h := h.1 hc
    refine bi_Tr 8 (s' := (476, [(0, .int x0)], [.int (0 : Int32), .int (0 : Int32), .int (0 : Int32), .int (0 : Int32), .int (107 : Int32), .int (101 : Int32), .int (101 : Int32), .int (112 : Int32)], st_mm s)) rfl ?_
    refine bi_TcL (as := [.int (112 : Int32), .int (101 : Int32), .int (101 : Int32), .int (107 : Int32), .int (0 : Int32), .int (0 : Int32), .int (0 : Int32), .int (0 : Int32)]) rfl rfl ?_
    refine cL.mono h (fun r22 s22 h => ?_) (fun _ _ h => h.elim)
    exact bi_Tv rfl rfl (Or.inl ⟨_, _, rfl, h⟩)
  have h := h.2 hc
  have hn21 := lv_neT hc (a := 21) rfl
  by_cases hc : x0 = (22 : Int32)
  · rw [hc] at ht; cases ht
    have h := h.1 hc
    refine bi_Tr 8 (s' := (491, [(0, .int x0)], [.int (0 : Int32), .int (0 : Int32), .int (0 : Int32), .int (0 : Int32), .int (0 : Int32), .int (100 : Int32), .int (110 : Int32), .int (97 : Int32)], st_mm s)) rfl ?_
    refine bi_TcL (as := [.int (97 : Int32), .int (110 : Int32), .int (100 : Int32), .int (0 : Int32), .int (0 : Int32), .int (0 : Int32), .int (0 : Int32), .int (0 : Int32)]) rfl rfl ?_
    refine cL.mono h (fun r23 s23 h => ?_) (fun _ _ h => h.elim)
    exact bi_Tv rfl rfl (Or.inl ⟨_, _, rfl, h⟩)
  have h := h.2 hc
  have hn22 := lv_neT hc (a := 22) rfl
  by_cases hc : x0 = (23 : Int32)
  · rw [hc] at ht; cases ht
    have h := h.1 hc
    refine bi_Tr 8 (s' := (505, [(0, .int x0)], [.int (0 : Int32), .int (0 : Int32), .int (0 : Int32), .int (0 : Int32), .int (0 : Int32), .int (0 : Int32), .int (114 : Int32), .int (111 : Int32)], st_mm s)) rfl ?_
    refine bi_TcL (as := [.int (111 : Int32), .int (114 : Int32), .int (0 : Int32), .int (0 : Int32), .int (0 : Int32), .int (0 : Int32), .int (0 : Int32), .int (0 : Int32)]) rfl rfl ?_
    refine cL.mono h (fun r24 s24 h => ?_) (fun _ _ h => h.elim)
    exact bi_Tv rfl rfl (Or.inl ⟨_, _, rfl, h⟩)
  have h := h.2 hc
  have hn23 := lv_neT hc (a := 23) rfl
  have ht : bi_tg 1 508 = some t := bi_swd ht (fun h1 h2 => by omega)
  cases ht
  refine bi_Tr 8 (s' := (520, [(0, .int x0)], [.int (0 : Int32), .int (0 : Int32), .int (0 : Int32), .int (0 : Int32), .int (0 : Int32), .int (116 : Int32), .int (111 : Int32), .int (110 : Int32)], st_mm s)) rfl ?_
  refine bi_TcL (as := [.int (110 : Int32), .int (111 : Int32), .int (116 : Int32), .int (0 : Int32), .int (0 : Int32), .int (0 : Int32), .int (0 : Int32), .int (0 : Int32)]) rfl rfl ?_
  refine cL.mono h (fun r25 s25 h => ?_) (fun _ _ h => h.elim)
  exact bi_Tv rfl rfl (Or.inl ⟨_, _, rfl, h⟩)
def at_X12_knownWord_29 (X : bi_X) (d : Nat) (K : Int32 → bi_St → Prop) (E : Nat → bi_St → Prop) (s : bi_St) (y1 : Int32) : Prop := bi_T X d 175 (29, [(0, .ref 77), (1, .int y1)], [], st_mm s) (st_RI K E)
theorem go_X12_knownWord_29 {X : bi_X} {d : Nat} {K : Int32 → bi_St → Prop} {E : Nat → bi_St → Prop}  {s : bi_St} {y1 : Int32}  (h : (((25 : Int32) ≤ y1) → K (-1 : Int32) s) ∧ (¬ ((25 : Int32) ≤ y1) → cL X d 174 [.int y1] s (fun (r1 : Int64) (s1 : bi_St) => ((¬ (lg_cmp r1 (st_gl s1 77 13)) = 0) → at_X12_knownWord_29 X (d + 1) K E s1 ((y1 + (1 : Int32)))) ∧ (¬ (¬ (lg_cmp r1 (st_gl s1 77 13)) = 0) → K y1 s1)) (fun _ _ => False))) : at_X12_knownWord_29 X (d + 1) K E s y1 := by
  show bi_T _ _ _ _ _
  refine bi_Tr 3 (s' := ((if (25 : Int32) ≤ y1 then 55 else 35), [(0, .ref 77), (1, .int y1)], [], st_mm s)) rfl (bi_Tif (fun hc => ?_) (fun hc => ?_))
  · have h := h.1 hc
    refine bi_Tr 1 (s' := (56, [(0, .ref 77), (1, .int y1)], [.int (-1 : Int32)], st_mm s)) rfl ?_
    exact bi_Tv rfl rfl (Or.inl ⟨_, _, rfl, h⟩)
  · have h := h.2 hc
    refine bi_Tr 1 (s' := (36, [(0, .ref 77), (1, .int y1)], [.int y1], st_mm s)) rfl ?_
    refine bi_TcL (as := [.int y1]) rfl rfl ?_
    refine cL.mono h (fun r1 s1 h => ?_) (fun _ _ h => h.elim)
    refine bi_Tr 4 (s' := ((if ¬ (lg_cmp r1 (st_gl s1 77 13)) = 0 then 49 else 47), [(0, .ref 77), (1, .int y1)], [], st_mm s1)) rfl (bi_Tif (fun hc => ?_) (fun hc => ?_))
    · have h := h.1 hc
      refine bi_Tr 2 (s' := (29, [(1, .int (y1 + (1 : Int32))), (0, .ref 77)], [], st_mm s1)) rfl ?_
      exact bi_Tww h rfl rfl ⟨rfl, rfl, trivial⟩
    · have h := h.2 hc
      refine bi_Tr 1 (s' := (48, [(0, .ref 77), (1, .int y1)], [.int y1], st_mm s1)) rfl ?_
      exact bi_Tv rfl rfl (Or.inl ⟨_, _, rfl, h⟩)
/-- PolicyRowsModel.knownWord()I -/
theorem en_X12_knownWord {X : bi_X} {d : Nat} {K : Int32 → bi_St → Prop} {E : Nat → bi_St → Prop} {s : bi_St}   (h : ((¬ (st_g s 77 8) = (1 : Int32)) → K (-1 : Int32) s) ∧ (¬ (¬ (st_g s 77 8) = (1 : Int32)) → (((8 : Int32) < (st_g s 77 10)) → K (-1 : Int32) s) ∧ (¬ ((8 : Int32) < (st_g s 77 10)) → ((¬ (st_g s 77 10) = (1 : Int32)) → at_X12_knownWord_29 X (d + 1) K E s ((0 : Int32))) ∧ (¬ (¬ (st_g s 77 10) = (1 : Int32)) → K (-1 : Int32) s)))) : cI X (d + 1) 175 [.ref 77] s K E := by
  show bi_T _ _ _ _ _
  refine bi_Tr 4 (s' := ((if ¬ (st_g s 77 8) = (1 : Int32) then 25 else 8), [(0, .ref 77)], [], st_mm s)) rfl (bi_Tif (fun hc => ?_) (fun hc => ?_))
  · have h := h.1 hc
    refine bi_Tr 1 (s' := (26, [(0, .ref 77)], [.int (-1 : Int32)], st_mm s)) rfl ?_
    exact bi_Tv rfl rfl (Or.inl ⟨_, _, rfl, h⟩)
  · have h := h.2 hc
    refine bi_Tr 4 (s' := ((if (8 : Int32) < (st_g s 77 10) then 25 else 17), [(0, .ref 77)], [], st_mm s)) rfl (bi_Tif (fun hc => ?_) (fun hc => ?_))
    · have h := h.1 hc
      refine bi_Tr 1 (s' := (26, [(0, .ref 77)], [.int (-1 : Int32)], st_mm s)) rfl ?_
      exact bi_Tv rfl rfl (Or.inl ⟨_, _, rfl, h⟩)
    · have h := h.2 hc
      refine bi_Tr 4 (s' := ((if ¬ (st_g s 77 10) = (1 : Int32) then 27 else 25), [(0, .ref 77)], [], st_mm s)) rfl (bi_Tif (fun hc => ?_) (fun hc => ?_))
      · have h := h.1 hc
        refine bi_Tr 2 (s' := (29, [(1, .int (0 : Int32)), (0, .ref 77)], [], st_mm s)) rfl ?_
        exact bi_Tww h rfl rfl ⟨rfl, rfl, trivial⟩
      · have h := h.2 hc
        refine bi_Tr 1 (s' := (26, [(0, .ref 77)], [.int (-1 : Int32)], st_mm s)) rfl ?_
        exact bi_Tv rfl rfl (Or.inl ⟨_, _, rfl, h⟩)
/-- PolicyRowsModel.wrong(I)V -/
theorem en_X12_wrong {X : bi_X} {d : Nat} {K : bi_St → Prop} {E : Nat → bi_St → Prop} {s : bi_St} {x0 : Int32}  (h : (((st_g s 77 3) = 0) → K (st_p (st_p s 77 3 x0) 77 4 (st_g (st_p s 77 3 x0) 77 9))) ∧ (¬ ((st_g s 77 3) = 0) → K s)) : cV X d 176 [.ref 77, .int x0] s K E := by
  show bi_T _ _ _ _ _
  refine bi_Tr 3 (s' := ((if (st_g s 77 3) = 0 then 8 else 7), [(0, .ref 77), (1, .int x0)], [], st_mm s)) rfl (bi_Tif (fun hc => ?_) (fun hc => ?_))
  · have h := h.1 hc
    refine bi_Tr 7 (s' := (21, [(0, .ref 77), (1, .int x0)], [], st_mm (st_p (st_p s 77 3 x0) 77 4 (st_g (st_p s 77 3 x0) 77 9)))) rfl ?_
    exact bi_Tv rfl rfl (Or.inl ⟨_, rfl, h⟩)
  · have h := h.2 hc
    exact bi_Tv rfl rfl (Or.inl ⟨_, rfl, h⟩)
/-- PolicyRowsModel.isGood()Z -/
theorem en_X12_isGood {X : bi_X} {d : Nat} {K : Int32 → bi_St → Prop} {E : Nat → bi_St → Prop} {s : bi_St}   (h : ((¬ (st_g s 77 3) = 0) → K (0 : Int32) s) ∧ (¬ (¬ (st_g s 77 3) = 0) → K (1 : Int32) s)) : cI X d 177 [.ref 77] s K E := by
  show bi_T _ _ _ _ _
  refine bi_Tr 3 (s' := ((if ¬ (st_g s 77 3) = 0 then 11 else 7), [(0, .ref 77)], [], st_mm s)) rfl (bi_Tif (fun hc => ?_) (fun hc => ?_))
  · have h := h.1 hc
    refine bi_Tr 1 (s' := (12, [(0, .ref 77)], [.int (0 : Int32)], st_mm s)) rfl ?_
    exact bi_Tv rfl rfl (Or.inl ⟨_, _, rfl, h⟩)
  · have h := h.2 hc
    refine bi_Tr 2 (s' := (12, [(0, .ref 77)], [.int (1 : Int32)], st_mm s)) rfl ?_
    exact bi_Tv rfl rfl (Or.inl ⟨_, _, rfl, h⟩)
/-- PolicyRowsModel.isSign(I)Z -/
theorem en_X12_isSign {X : bi_X} {d : Nat} {K : Int32 → bi_St → Prop} {E : Nat → bi_St → Prop} {s : bi_St} {x0 : Int32}  (h : ((¬ (st_g s 77 8) = (3 : Int32)) → K (0 : Int32) s) ∧ (¬ (¬ (st_g s 77 8) = (3 : Int32)) → ((¬ (st_g s 77 12) = x0) → K (0 : Int32) s) ∧ (¬ (¬ (st_g s 77 12) = x0) → K (1 : Int32) s))) : cI X d 178 [.ref 77, .int x0] s K E := by
  show bi_T _ _ _ _ _
  refine bi_Tr 4 (s' := ((if ¬ (st_g s 77 8) = (3 : Int32) then 20 else 8), [(0, .ref 77), (1, .int x0)], [], st_mm s)) rfl (bi_Tif (fun hc => ?_) (fun hc => ?_))
  · have h := h.1 hc
    refine bi_Tr 1 (s' := (21, [(0, .ref 77), (1, .int x0)], [.int (0 : Int32)], st_mm s)) rfl ?_
    exact bi_Tv rfl rfl (Or.inl ⟨_, _, rfl, h⟩)
  · have h := h.2 hc
    refine bi_Tr 4 (s' := ((if ¬ (st_g s 77 12) = x0 then 20 else 16), [(0, .ref 77), (1, .int x0)], [], st_mm s)) rfl (bi_Tif (fun hc => ?_) (fun hc => ?_))
    · have h := h.1 hc
      refine bi_Tr 1 (s' := (21, [(0, .ref 77), (1, .int x0)], [.int (0 : Int32)], st_mm s)) rfl ?_
      exact bi_Tv rfl rfl (Or.inl ⟨_, _, rfl, h⟩)
    · have h := h.2 hc
      refine bi_Tr 2 (s' := (21, [(0, .ref 77), (1, .int x0)], [.int (1 : Int32)], st_mm s)) rfl ?_
      exact bi_Tv rfl rfl (Or.inl ⟨_, _, rfl, h⟩)
/-- PolicyRowsModel.need(Z)V -/
theorem en_X12_need {X : bi_X} {d : Nat} {K : bi_St → Prop} {E : Nat → bi_St → Prop} {s : bi_St} {x0 : Int32}  (h : cI X d 177 [.ref 77] s (fun (r1 : Int32) (s1 : bi_St) => ((¬ r1 = 0) → ((x0 = 0) → cV X d 176 [.ref 77, .int (1 : Int32)] s1 (fun (s2 : bi_St) => K s2) (fun _ _ => False)) ∧ (¬ (x0 = 0) → cV X d 172 [.ref 77] s1 (fun (s3 : bi_St) => K s3) (fun _ _ => False))) ∧ (¬ (¬ r1 = 0) → K s1)) (fun _ _ => False)) : cV X (d + 1) 179 [.ref 77, .int x0] s K E := by
  show bi_T _ _ _ _ _
  refine bi_Tr 1 (s' := (1, [(0, .ref 77), (1, .int x0)], [.ref 77], st_mm s)) rfl ?_
  refine bi_TcI (as := [.ref 77]) rfl rfl ?_
  refine cI.mono h (fun r1 s1 h => ?_) (fun _ _ h => h.elim)
  refine bi_Tr 1 (s' := ((if ¬ r1 = 0 then 8 else 7), [(0, .ref 77), (1, .int x0)], [], st_mm s1)) rfl (bi_Tif (fun hc => ?_) (fun hc => ?_))
  · have h := h.1 hc
    refine bi_Tr 2 (s' := ((if x0 = 0 then 19 else 12), [(0, .ref 77), (1, .int x0)], [], st_mm s1)) rfl (bi_Tif (fun hc => ?_) (fun hc => ?_))
    · have h := h.1 hc
      refine bi_Tr 2 (s' := (21, [(0, .ref 77), (1, .int x0)], [.int (1 : Int32), .ref 77], st_mm s1)) rfl ?_
      refine bi_TcV (as := [.ref 77, .int (1 : Int32)]) rfl rfl ?_
      refine cV.mono h (fun s2 h => ?_) (fun _ _ h => h.elim)
      exact bi_Tv rfl rfl (Or.inl ⟨_, rfl, h⟩)
    · have h := h.2 hc
      refine bi_Tr 1 (s' := (13, [(0, .ref 77), (1, .int x0)], [.ref 77], st_mm s1)) rfl ?_
      refine bi_TcV (as := [.ref 77]) rfl rfl ?_
      refine cV.mono h (fun s3 h => ?_) (fun _ _ h => h.elim)
      refine bi_Tr 1 (s' := (24, [(0, .ref 77), (1, .int x0)], [], st_mm s3)) rfl ?_
      exact bi_Tv rfl rfl (Or.inl ⟨_, rfl, h⟩)
  · have h := h.2 hc
    exact bi_Tv rfl rfl (Or.inl ⟨_, rfl, h⟩)
/-- PolicyRowsModel.number(II)I -/
theorem en_X12_number {X : bi_X} {d : Nat} {K : Int32 → bi_St → Prop} {E : Nat → bi_St → Prop} {s : bi_St} {x0 : Int32} {x1 : Int32}  (h : cI X d 177 [.ref 77] s (fun (r1 : Int32) (s1 : bi_St) => ((¬ r1 = 0) → (((st_g s1 77 8) = (2 : Int32)) → (((4 : Int32) < (st_g s1 77 10)) → cV X d 176 [.ref 77, .int (2 : Int32)] s1 (fun (s2 : bi_St) => cI X d 177 [.ref 77] s2 (fun (r3 : Int32) (s3 : bi_St) => ((r3 = 0) → K (st_g s2 77 11) s3) ∧ (¬ (r3 = 0) → cV X d 172 [.ref 77] s3 (fun (s4 : bi_St) => K (st_g s2 77 11) s4) (fun _ _ => False))) (fun _ _ => False)) (fun _ _ => False)) ∧ (¬ ((4 : Int32) < (st_g s1 77 10)) → (((st_g s1 77 11) < x0) → cV X d 176 [.ref 77, .int (2 : Int32)] s1 (fun (s5 : bi_St) => cI X d 177 [.ref 77] s5 (fun (r6 : Int32) (s6 : bi_St) => ((r6 = 0) → K (st_g s5 77 11) s6) ∧ (¬ (r6 = 0) → cV X d 172 [.ref 77] s6 (fun (s7 : bi_St) => K (st_g s5 77 11) s7) (fun _ _ => False))) (fun _ _ => False)) (fun _ _ => False)) ∧ (¬ ((st_g s1 77 11) < x0) → (((st_g s1 77 11) ≤ x1) → cI X d 177 [.ref 77] s1 (fun (r8 : Int32) (s8 : bi_St) => ((r8 = 0) → K (st_g s1 77 11) s8) ∧ (¬ (r8 = 0) → cV X d 172 [.ref 77] s8 (fun (s9 : bi_St) => K (st_g s1 77 11) s9) (fun _ _ => False))) (fun _ _ => False)) ∧ (¬ ((st_g s1 77 11) ≤ x1) → cV X d 176 [.ref 77, .int (2 : Int32)] s1 (fun (s10 : bi_St) => cI X d 177 [.ref 77] s10 (fun (r11 : Int32) (s11 : bi_St) => ((r11 = 0) → K (st_g s10 77 11) s11) ∧ (¬ (r11 = 0) → cV X d 172 [.ref 77] s11 (fun (s12 : bi_St) => K (st_g s10 77 11) s12) (fun _ _ => False))) (fun _ _ => False)) (fun _ _ => False))))) ∧ (¬ ((st_g s1 77 8) = (2 : Int32)) → cV X d 176 [.ref 77, .int (1 : Int32)] s1 (fun (s13 : bi_St) => cI X d 177 [.ref 77] s13 (fun (r14 : Int32) (s14 : bi_St) => ((r14 = 0) → K (st_g s13 77 11) s14) ∧ (¬ (r14 = 0) → cV X d 172 [.ref 77] s14 (fun (s15 : bi_St) => K (st_g s13 77 11) s15) (fun _ _ => False))) (fun _ _ => False)) (fun _ _ => False))) ∧ (¬ (¬ r1 = 0) → K (0 : Int32) s1)) (fun _ _ => False)) : cI X (d + 1) 180 [.ref 77, .int x0, .int x1] s K E := by
  show bi_T _ _ _ _ _
  refine bi_Tr 1 (s' := (1, [(0, .ref 77), (1, .int x0), (2, .int x1)], [.ref 77], st_mm s)) rfl ?_
  refine bi_TcI (as := [.ref 77]) rfl rfl ?_
  refine cI.mono h (fun r1 s1 h => ?_) (fun _ _ h => h.elim)
  refine bi_Tr 1 (s' := ((if ¬ r1 = 0 then 9 else 7), [(0, .ref 77), (1, .int x0), (2, .int x1)], [], st_mm s1)) rfl (bi_Tif (fun hc => ?_) (fun hc => ?_))
  · have h := h.1 hc
    refine bi_Tr 4 (s' := ((if (st_g s1 77 8) = (2 : Int32) then 25 else 17), [(0, .ref 77), (1, .int x0), (2, .int x1)], [], st_mm s1)) rfl (bi_Tif (fun hc => ?_) (fun hc => ?_))
    · have h := h.1 hc
      refine bi_Tr 4 (s' := ((if (4 : Int32) < (st_g s1 77 10) then 49 else 33), [(0, .ref 77), (1, .int x0), (2, .int x1)], [], st_mm s1)) rfl (bi_Tif (fun hc => ?_) (fun hc => ?_))
      · have h := h.1 hc
        refine bi_Tr 2 (s' := (51, [(0, .ref 77), (1, .int x0), (2, .int x1)], [.int (2 : Int32), .ref 77], st_mm s1)) rfl ?_
        refine bi_TcV (as := [.ref 77, .int (2 : Int32)]) rfl rfl ?_
        refine cV.mono h (fun s2 h => ?_) (fun _ _ h => h.elim)
        refine bi_Tr 4 (s' := (60, [(3, .int (st_g s2 77 11)), (0, .ref 77), (1, .int x0), (2, .int x1)], [.ref 77], st_mm s2)) rfl ?_
        refine bi_TcI (as := [.ref 77]) rfl rfl ?_
        refine cI.mono h (fun r3 s3 h => ?_) (fun _ _ h => h.elim)
        refine bi_Tr 1 (s' := ((if r3 = 0 then 70 else 66), [(3, .int (st_g s2 77 11)), (0, .ref 77), (1, .int x0), (2, .int x1)], [], st_mm s3)) rfl (bi_Tif (fun hc => ?_) (fun hc => ?_))
        · have h := h.1 hc
          refine bi_Tr 1 (s' := (71, [(3, .int (st_g s2 77 11)), (0, .ref 77), (1, .int x0), (2, .int x1)], [.int (st_g s2 77 11)], st_mm s3)) rfl ?_
          exact bi_Tv rfl rfl (Or.inl ⟨_, _, rfl, h⟩)
        · have h := h.2 hc
          refine bi_Tr 1 (s' := (67, [(3, .int (st_g s2 77 11)), (0, .ref 77), (1, .int x0), (2, .int x1)], [.ref 77], st_mm s3)) rfl ?_
          refine bi_TcV (as := [.ref 77]) rfl rfl ?_
          refine cV.mono h (fun s4 h => ?_) (fun _ _ h => h.elim)
          refine bi_Tr 1 (s' := (71, [(3, .int (st_g s2 77 11)), (0, .ref 77), (1, .int x0), (2, .int x1)], [.int (st_g s2 77 11)], st_mm s4)) rfl ?_
          exact bi_Tv rfl rfl (Or.inl ⟨_, _, rfl, h⟩)
      · have h := h.2 hc
        refine bi_Tr 4 (s' := ((if (st_g s1 77 11) < x0 then 49 else 41), [(0, .ref 77), (1, .int x0), (2, .int x1)], [], st_mm s1)) rfl (bi_Tif (fun hc => ?_) (fun hc => ?_))
        · have h := h.1 hc
          refine bi_Tr 2 (s' := (51, [(0, .ref 77), (1, .int x0), (2, .int x1)], [.int (2 : Int32), .ref 77], st_mm s1)) rfl ?_
          refine bi_TcV (as := [.ref 77, .int (2 : Int32)]) rfl rfl ?_
          refine cV.mono h (fun s5 h => ?_) (fun _ _ h => h.elim)
          refine bi_Tr 4 (s' := (60, [(3, .int (st_g s5 77 11)), (0, .ref 77), (1, .int x0), (2, .int x1)], [.ref 77], st_mm s5)) rfl ?_
          refine bi_TcI (as := [.ref 77]) rfl rfl ?_
          refine cI.mono h (fun r6 s6 h => ?_) (fun _ _ h => h.elim)
          refine bi_Tr 1 (s' := ((if r6 = 0 then 70 else 66), [(3, .int (st_g s5 77 11)), (0, .ref 77), (1, .int x0), (2, .int x1)], [], st_mm s6)) rfl (bi_Tif (fun hc => ?_) (fun hc => ?_))
          · have h := h.1 hc
            refine bi_Tr 1 (s' := (71, [(3, .int (st_g s5 77 11)), (0, .ref 77), (1, .int x0), (2, .int x1)], [.int (st_g s5 77 11)], st_mm s6)) rfl ?_
            exact bi_Tv rfl rfl (Or.inl ⟨_, _, rfl, h⟩)
          · have h := h.2 hc
            refine bi_Tr 1 (s' := (67, [(3, .int (st_g s5 77 11)), (0, .ref 77), (1, .int x0), (2, .int x1)], [.ref 77], st_mm s6)) rfl ?_
            refine bi_TcV (as := [.ref 77]) rfl rfl ?_
            refine cV.mono h (fun s7 h => ?_) (fun _ _ h => h.elim)
            refine bi_Tr 1 (s' := (71, [(3, .int (st_g s5 77 11)), (0, .ref 77), (1, .int x0), (2, .int x1)], [.int (st_g s5 77 11)], st_mm s7)) rfl ?_
            exact bi_Tv rfl rfl (Or.inl ⟨_, _, rfl, h⟩)
        · have h := h.2 hc
          refine bi_Tr 4 (s' := ((if (st_g s1 77 11) ≤ x1 then 54 else 49), [(0, .ref 77), (1, .int x0), (2, .int x1)], [], st_mm s1)) rfl (bi_Tif (fun hc => ?_) (fun hc => ?_))
          · have h := h.1 hc
            refine bi_Tr 4 (s' := (60, [(3, .int (st_g s1 77 11)), (0, .ref 77), (1, .int x0), (2, .int x1)], [.ref 77], st_mm s1)) rfl ?_
            refine bi_TcI (as := [.ref 77]) rfl rfl ?_
            refine cI.mono h (fun r8 s8 h => ?_) (fun _ _ h => h.elim)
            refine bi_Tr 1 (s' := ((if r8 = 0 then 70 else 66), [(3, .int (st_g s1 77 11)), (0, .ref 77), (1, .int x0), (2, .int x1)], [], st_mm s8)) rfl (bi_Tif (fun hc => ?_) (fun hc => ?_))
            · have h := h.1 hc
              refine bi_Tr 1 (s' := (71, [(3, .int (st_g s1 77 11)), (0, .ref 77), (1, .int x0), (2, .int x1)], [.int (st_g s1 77 11)], st_mm s8)) rfl ?_
              exact bi_Tv rfl rfl (Or.inl ⟨_, _, rfl, h⟩)
            · have h := h.2 hc
              refine bi_Tr 1 (s' := (67, [(3, .int (st_g s1 77 11)), (0, .ref 77), (1, .int x0), (2, .int x1)], [.ref 77], st_mm s8)) rfl ?_
              refine bi_TcV (as := [.ref 77]) rfl rfl ?_
              refine cV.mono h (fun s9 h => ?_) (fun _ _ h => h.elim)
              refine bi_Tr 1 (s' := (71, [(3, .int (st_g s1 77 11)), (0, .ref 77), (1, .int x0), (2, .int x1)], [.int (st_g s1 77 11)], st_mm s9)) rfl ?_
              exact bi_Tv rfl rfl (Or.inl ⟨_, _, rfl, h⟩)
          · have h := h.2 hc
            refine bi_Tr 2 (s' := (51, [(0, .ref 77), (1, .int x0), (2, .int x1)], [.int (2 : Int32), .ref 77], st_mm s1)) rfl ?_
            refine bi_TcV (as := [.ref 77, .int (2 : Int32)]) rfl rfl ?_
            refine cV.mono h (fun s10 h => ?_) (fun _ _ h => h.elim)
            refine bi_Tr 4 (s' := (60, [(3, .int (st_g s10 77 11)), (0, .ref 77), (1, .int x0), (2, .int x1)], [.ref 77], st_mm s10)) rfl ?_
            refine bi_TcI (as := [.ref 77]) rfl rfl ?_
            refine cI.mono h (fun r11 s11 h => ?_) (fun _ _ h => h.elim)
            refine bi_Tr 1 (s' := ((if r11 = 0 then 70 else 66), [(3, .int (st_g s10 77 11)), (0, .ref 77), (1, .int x0), (2, .int x1)], [], st_mm s11)) rfl (bi_Tif (fun hc => ?_) (fun hc => ?_))
            · have h := h.1 hc
              refine bi_Tr 1 (s' := (71, [(3, .int (st_g s10 77 11)), (0, .ref 77), (1, .int x0), (2, .int x1)], [.int (st_g s10 77 11)], st_mm s11)) rfl ?_
              exact bi_Tv rfl rfl (Or.inl ⟨_, _, rfl, h⟩)
            · have h := h.2 hc
              refine bi_Tr 1 (s' := (67, [(3, .int (st_g s10 77 11)), (0, .ref 77), (1, .int x0), (2, .int x1)], [.ref 77], st_mm s11)) rfl ?_
              refine bi_TcV (as := [.ref 77]) rfl rfl ?_
              refine cV.mono h (fun s12 h => ?_) (fun _ _ h => h.elim)
              refine bi_Tr 1 (s' := (71, [(3, .int (st_g s10 77 11)), (0, .ref 77), (1, .int x0), (2, .int x1)], [.int (st_g s10 77 11)], st_mm s12)) rfl ?_
              exact bi_Tv rfl rfl (Or.inl ⟨_, _, rfl, h⟩)
    · have h := h.2 hc
      refine bi_Tr 2 (s' := (19, [(0, .ref 77), (1, .int x0), (2, .int x1)], [.int (1 : Int32), .ref 77], st_mm s1)) rfl ?_
      refine bi_TcV (as := [.ref 77, .int (1 : Int32)]) rfl rfl ?_
      refine cV.mono h (fun s13 h => ?_) (fun _ _ h => h.elim)
      refine bi_Tr 5 (s' := (60, [(3, .int (st_g s13 77 11)), (0, .ref 77), (1, .int x0), (2, .int x1)], [.ref 77], st_mm s13)) rfl ?_
      refine bi_TcI (as := [.ref 77]) rfl rfl ?_
      refine cI.mono h (fun r14 s14 h => ?_) (fun _ _ h => h.elim)
      refine bi_Tr 1 (s' := ((if r14 = 0 then 70 else 66), [(3, .int (st_g s13 77 11)), (0, .ref 77), (1, .int x0), (2, .int x1)], [], st_mm s14)) rfl (bi_Tif (fun hc => ?_) (fun hc => ?_))
      · have h := h.1 hc
        refine bi_Tr 1 (s' := (71, [(3, .int (st_g s13 77 11)), (0, .ref 77), (1, .int x0), (2, .int x1)], [.int (st_g s13 77 11)], st_mm s14)) rfl ?_
        exact bi_Tv rfl rfl (Or.inl ⟨_, _, rfl, h⟩)
      · have h := h.2 hc
        refine bi_Tr 1 (s' := (67, [(3, .int (st_g s13 77 11)), (0, .ref 77), (1, .int x0), (2, .int x1)], [.ref 77], st_mm s14)) rfl ?_
        refine bi_TcV (as := [.ref 77]) rfl rfl ?_
        refine cV.mono h (fun s15 h => ?_) (fun _ _ h => h.elim)
        refine bi_Tr 1 (s' := (71, [(3, .int (st_g s13 77 11)), (0, .ref 77), (1, .int x0), (2, .int x1)], [.int (st_g s13 77 11)], st_mm s15)) rfl ?_
        exact bi_Tv rfl rfl (Or.inl ⟨_, _, rfl, h⟩)
  · have h := h.2 hc
    refine bi_Tr 1 (s' := (8, [(0, .ref 77), (1, .int x0), (2, .int x1)], [.int (0 : Int32)], st_mm s1)) rfl ?_
    exact bi_Tv rfl rfl (Or.inl ⟨_, _, rfl, h⟩)
/-- PolicyRowsModel.oneHere(I)I -/
theorem en_X12_oneHere {X : bi_X} {d : Nat} {K : Int32 → bi_St → Prop} {E : Nat → bi_St → Prop} {s : bi_St} {x0 : Int32}  (h : cI X d 177 [.ref 77] s (fun (r1 : Int32) (s1 : bi_St) => ((¬ r1 = 0) → (((st_g s1 77 8) = (2 : Int32)) → (((st_g s1 77 10) ≤ (4 : Int32)) → (((st_g s1 77 11) < x0) → K (st_g s1 77 11) s1) ∧ (¬ ((st_g s1 77 11) < x0) → cV X d 176 [.ref 77, .int (3 : Int32)] s1 (fun (s2 : bi_St) => K (st_g s2 77 11) s2) (fun _ _ => False))) ∧ (¬ ((st_g s1 77 10) ≤ (4 : Int32)) → cV X d 176 [.ref 77, .int (2 : Int32)] s1 (fun (s3 : bi_St) => K (st_g s3 77 11) s3) (fun _ _ => False))) ∧ (¬ ((st_g s1 77 8) = (2 : Int32)) → cV X d 176 [.ref 77, .int (1 : Int32)] s1 (fun (s4 : bi_St) => K (st_g s4 77 11) s4) (fun _ _ => False))) ∧ (¬ (¬ r1 = 0) → K (0 : Int32) s1)) (fun _ _ => False)) : cI X (d + 1) 181 [.ref 77, .int x0] s K E := by
  show bi_T _ _ _ _ _
  refine bi_Tr 1 (s' := (1, [(0, .ref 77), (1, .int x0)], [.ref 77], st_mm s)) rfl ?_
  refine bi_TcI (as := [.ref 77]) rfl rfl ?_
  refine cI.mono h (fun r1 s1 h => ?_) (fun _ _ h => h.elim)
  refine bi_Tr 1 (s' := ((if ¬ r1 = 0 then 9 else 7), [(0, .ref 77), (1, .int x0)], [], st_mm s1)) rfl (bi_Tif (fun hc => ?_) (fun hc => ?_))
  · have h := h.1 hc
    refine bi_Tr 4 (s' := ((if (st_g s1 77 8) = (2 : Int32) then 25 else 17), [(0, .ref 77), (1, .int x0)], [], st_mm s1)) rfl (bi_Tif (fun hc => ?_) (fun hc => ?_))
    · have h := h.1 hc
      refine bi_Tr 4 (s' := ((if (st_g s1 77 10) ≤ (4 : Int32) then 41 else 33), [(0, .ref 77), (1, .int x0)], [], st_mm s1)) rfl (bi_Tif (fun hc => ?_) (fun hc => ?_))
      · have h := h.1 hc
        refine bi_Tr 4 (s' := ((if (st_g s1 77 11) < x0 then 54 else 49), [(0, .ref 77), (1, .int x0)], [], st_mm s1)) rfl (bi_Tif (fun hc => ?_) (fun hc => ?_))
        · have h := h.1 hc
          refine bi_Tr 2 (s' := (58, [(0, .ref 77), (1, .int x0)], [.int (st_g s1 77 11)], st_mm s1)) rfl ?_
          exact bi_Tv rfl rfl (Or.inl ⟨_, _, rfl, h⟩)
        · have h := h.2 hc
          refine bi_Tr 2 (s' := (51, [(0, .ref 77), (1, .int x0)], [.int (3 : Int32), .ref 77], st_mm s1)) rfl ?_
          refine bi_TcV (as := [.ref 77, .int (3 : Int32)]) rfl rfl ?_
          refine cV.mono h (fun s2 h => ?_) (fun _ _ h => h.elim)
          refine bi_Tr 2 (s' := (58, [(0, .ref 77), (1, .int x0)], [.int (st_g s2 77 11)], st_mm s2)) rfl ?_
          exact bi_Tv rfl rfl (Or.inl ⟨_, _, rfl, h⟩)
      · have h := h.2 hc
        refine bi_Tr 2 (s' := (35, [(0, .ref 77), (1, .int x0)], [.int (2 : Int32), .ref 77], st_mm s1)) rfl ?_
        refine bi_TcV (as := [.ref 77, .int (2 : Int32)]) rfl rfl ?_
        refine cV.mono h (fun s3 h => ?_) (fun _ _ h => h.elim)
        refine bi_Tr 3 (s' := (58, [(0, .ref 77), (1, .int x0)], [.int (st_g s3 77 11)], st_mm s3)) rfl ?_
        exact bi_Tv rfl rfl (Or.inl ⟨_, _, rfl, h⟩)
    · have h := h.2 hc
      refine bi_Tr 2 (s' := (19, [(0, .ref 77), (1, .int x0)], [.int (1 : Int32), .ref 77], st_mm s1)) rfl ?_
      refine bi_TcV (as := [.ref 77, .int (1 : Int32)]) rfl rfl ?_
      refine cV.mono h (fun s4 h => ?_) (fun _ _ h => h.elim)
      refine bi_Tr 3 (s' := (58, [(0, .ref 77), (1, .int x0)], [.int (st_g s4 77 11)], st_mm s4)) rfl ?_
      exact bi_Tv rfl rfl (Or.inl ⟨_, _, rfl, h⟩)
  · have h := h.2 hc
    refine bi_Tr 1 (s' := (8, [(0, .ref 77), (1, .int x0)], [.int (0 : Int32)], st_mm s1)) rfl ?_
    exact bi_Tv rfl rfl (Or.inl ⟨_, _, rfl, h⟩)
/-- PolicyRowsModel.roleHere()I -/
theorem en_X12_roleHere {X : bi_X} {d : Nat} {K : Int32 → bi_St → Prop} {E : Nat → bi_St → Prop} {s : bi_St}   (h : cI X d 181 [.ref 77, .int (st_g s 77 15)] s (fun (r1 : Int32) (s1 : bi_St) => K r1 s1) (fun _ _ => False)) : cI X (d + 1) 182 [.ref 77] s K E := by
  show bi_T _ _ _ _ _
  refine bi_Tr 3 (s' := (5, [(0, .ref 77)], [.int (st_g s 77 15), .ref 77], st_mm s)) rfl ?_
  refine bi_TcI (as := [.ref 77, .int (st_g s 77 15)]) rfl rfl ?_
  refine cI.mono h (fun r1 s1 h => ?_) (fun _ _ h => h.elim)
  exact bi_Tv rfl rfl (Or.inl ⟨_, _, rfl, h⟩)
/-- PolicyRowsModel.columnWord(I)I -/
theorem en_X12_columnWord {X : bi_X} {d : Nat} {K : Int32 → bi_St → Prop} {E : Nat → bi_St → Prop} {s : bi_St} {x0 : Int32}  (h : ((¬ x0 = (19 : Int32)) → ((¬ (st_g s 77 10) = (1 : Int32)) → K (-1 : Int32) s) ∧ (¬ (¬ (st_g s 77 10) = (1 : Int32)) → ((0 < (lg_cmp (st_gl s 77 13) ((st_g s 77 14)).toInt64)) → K (-1 : Int32) s) ∧ (¬ (0 < (lg_cmp (st_gl s 77 13) ((st_g s 77 14)).toInt64)) → K (((st_gl s 77 13)).toInt32 - (1 : Int32)) s))) ∧ (¬ (¬ x0 = (19 : Int32)) → K (4 : Int32) s)) : cI X d 183 [.ref 77, .int x0] s K E := by
  show bi_T _ _ _ _ _
  refine bi_Tr 3 (s' := ((if ¬ x0 = (19 : Int32) then 8 else 6), [(0, .ref 77), (1, .int x0)], [], st_mm s)) rfl (bi_Tif (fun hc => ?_) (fun hc => ?_))
  · have h := h.1 hc
    refine bi_Tr 4 (s' := ((if ¬ (st_g s 77 10) = (1 : Int32) then 39 else 16), [(0, .ref 77), (1, .int x0)], [], st_mm s)) rfl (bi_Tif (fun hc => ?_) (fun hc => ?_))
    · have h := h.1 hc
      refine bi_Tr 1 (s' := (40, [(0, .ref 77), (1, .int x0)], [.int (-1 : Int32)], st_mm s)) rfl ?_
      exact bi_Tv rfl rfl (Or.inl ⟨_, _, rfl, h⟩)
    · have h := h.2 hc
      refine bi_Tr 7 (s' := ((if 0 < (lg_cmp (st_gl s 77 13) ((st_g s 77 14)).toInt64) then 39 else 29), [(0, .ref 77), (1, .int x0)], [], st_mm s)) rfl (bi_Tif (fun hc => ?_) (fun hc => ?_))
      · have h := h.1 hc
        refine bi_Tr 1 (s' := (40, [(0, .ref 77), (1, .int x0)], [.int (-1 : Int32)], st_mm s)) rfl ?_
        exact bi_Tv rfl rfl (Or.inl ⟨_, _, rfl, h⟩)
      · have h := h.2 hc
        refine bi_Tr 6 (s' := (40, [(0, .ref 77), (1, .int x0)], [.int (((st_gl s 77 13)).toInt32 - (1 : Int32))], st_mm s)) rfl ?_
        exact bi_Tv rfl rfl (Or.inl ⟨_, _, rfl, h⟩)
  · have h := h.2 hc
    refine bi_Tr 1 (s' := (7, [(0, .ref 77), (1, .int x0)], [.int (4 : Int32)], st_mm s)) rfl ?_
    exact bi_Tv rfl rfl (Or.inl ⟨_, _, rfl, h⟩)
/-- PolicyRowsModel.puts(I)V -/
theorem en_X12_puts {X : bi_X} {d : Nat} {K : bi_St → Prop} {E : Nat → bi_St → Prop} {s : bi_St} {x0 : Int32}  (h : bi_in (st_g s 77 19) 1400 = true ∧ (K (st_p (st_p s 80 ((st_g s 77 19)).toNatClampNeg x0) 77 19 ((st_g (st_p s 80 ((st_g s 77 19)).toNatClampNeg x0) 77 19) + (1 : Int32))))) : cV X d 184 [.ref 77, .int x0] s K E := by
  show bi_T _ _ _ _ _
  refine bi_Tr 5 (s' := (9, [(0, .ref 77), (1, .int x0)], [.int x0, .int (st_g s 77 19), .ref 80], st_mm s)) rfl ?_
  obtain ⟨hi, h⟩ := h
  refine bi_Tias rfl rfl hi ?_
  refine bi_Tr 6 (s' := (20, [(0, .ref 77), (1, .int x0)], [], st_mm (st_p (st_p s 80 ((st_g s 77 19)).toNatClampNeg x0) 77 19 ((st_g (st_p s 80 ((st_g s 77 19)).toNatClampNeg x0) 77 19) + (1 : Int32))))) rfl ?_
  exact bi_Tv rfl rfl (Or.inl ⟨_, rfl, h⟩)
/-- PolicyRowsModel.isOpen(I)Z -/
theorem en_X12_isOpen {X : bi_X} {d : Nat} {K : Int32 → bi_St → Prop} {E : Nat → bi_St → Prop} {s : bi_St} {x0 : Int32}  (h : ((x0 < (14 : Int32)) → K (0 : Int32) s) ∧ (¬ (x0 < (14 : Int32)) → K (1 : Int32) s)) : cI X d 185 [.int x0] s K E := by
  show bi_T _ _ _ _ _
  refine bi_Tr 3 (s' := ((if x0 < (14 : Int32) then 10 else 6), [(0, .int x0)], [], st_mm s)) rfl (bi_Tif (fun hc => ?_) (fun hc => ?_))
  · have h := h.1 hc
    refine bi_Tr 1 (s' := (11, [(0, .int x0)], [.int (0 : Int32)], st_mm s)) rfl ?_
    exact bi_Tv rfl rfl (Or.inl ⟨_, _, rfl, h⟩)
  · have h := h.2 hc
    refine bi_Tr 2 (s' := (11, [(0, .int x0)], [.int (1 : Int32)], st_mm s)) rfl ?_
    exact bi_Tv rfl rfl (Or.inl ⟨_, _, rfl, h⟩)
/-- PolicyRowsModel.strength(I)I -/
theorem en_X12_strength {X : bi_X} {d : Nat} {K : Int32 → bi_St → Prop} {E : Nat → bi_St → Prop} {s : bi_St} {x0 : Int32}  (h : ((¬ x0 = (5 : Int32)) → ((¬ x0 = (4 : Int32)) → ((¬ x0 = (3 : Int32)) → ((x0 = (6 : Int32)) → K (4 : Int32) s) ∧ (¬ (x0 = (6 : Int32)) → ((¬ x0 = (7 : Int32)) → ((x0 = (8 : Int32)) → K (5 : Int32) s) ∧ (¬ (x0 = (8 : Int32)) → ((¬ x0 = (9 : Int32)) → K (6 : Int32) s) ∧ (¬ (¬ x0 = (9 : Int32)) → K (5 : Int32) s))) ∧ (¬ (¬ x0 = (7 : Int32)) → K (4 : Int32) s))) ∧ (¬ (¬ x0 = (3 : Int32)) → K (3 : Int32) s)) ∧ (¬ (¬ x0 = (4 : Int32)) → K (2 : Int32) s)) ∧ (¬ (¬ x0 = (5 : Int32)) → K (1 : Int32) s)) : cI X d 186 [.int x0] s K E := by
  show bi_T _ _ _ _ _
  refine bi_Tr 3 (s' := ((if ¬ x0 = (5 : Int32) then 9 else 5), [(0, .int x0)], [], st_mm s)) rfl (bi_Tif (fun hc => ?_) (fun hc => ?_))
  · have h := h.1 hc
    refine bi_Tr 3 (s' := ((if ¬ x0 = (4 : Int32) then 18 else 14), [(0, .int x0)], [], st_mm s)) rfl (bi_Tif (fun hc => ?_) (fun hc => ?_))
    · have h := h.1 hc
      refine bi_Tr 3 (s' := ((if ¬ x0 = (3 : Int32) then 27 else 23), [(0, .int x0)], [], st_mm s)) rfl (bi_Tif (fun hc => ?_) (fun hc => ?_))
      · have h := h.1 hc
        refine bi_Tr 3 (s' := ((if x0 = (6 : Int32) then 39 else 33), [(0, .int x0)], [], st_mm s)) rfl (bi_Tif (fun hc => ?_) (fun hc => ?_))
        · have h := h.1 hc
          refine bi_Tr 2 (s' := (61, [(0, .int x0)], [.int (4 : Int32)], st_mm s)) rfl ?_
          exact bi_Tv rfl rfl (Or.inl ⟨_, _, rfl, h⟩)
        · have h := h.2 hc
          refine bi_Tr 3 (s' := ((if ¬ x0 = (7 : Int32) then 43 else 39), [(0, .int x0)], [], st_mm s)) rfl (bi_Tif (fun hc => ?_) (fun hc => ?_))
          · have h := h.1 hc
            refine bi_Tr 3 (s' := ((if x0 = (8 : Int32) then 55 else 49), [(0, .int x0)], [], st_mm s)) rfl (bi_Tif (fun hc => ?_) (fun hc => ?_))
            · have h := h.1 hc
              refine bi_Tr 2 (s' := (61, [(0, .int x0)], [.int (5 : Int32)], st_mm s)) rfl ?_
              exact bi_Tv rfl rfl (Or.inl ⟨_, _, rfl, h⟩)
            · have h := h.2 hc
              refine bi_Tr 3 (s' := ((if ¬ x0 = (9 : Int32) then 59 else 55), [(0, .int x0)], [], st_mm s)) rfl (bi_Tif (fun hc => ?_) (fun hc => ?_))
              · have h := h.1 hc
                refine bi_Tr 1 (s' := (61, [(0, .int x0)], [.int (6 : Int32)], st_mm s)) rfl ?_
                exact bi_Tv rfl rfl (Or.inl ⟨_, _, rfl, h⟩)
              · have h := h.2 hc
                refine bi_Tr 2 (s' := (61, [(0, .int x0)], [.int (5 : Int32)], st_mm s)) rfl ?_
                exact bi_Tv rfl rfl (Or.inl ⟨_, _, rfl, h⟩)
          · have h := h.2 hc
            refine bi_Tr 2 (s' := (61, [(0, .int x0)], [.int (4 : Int32)], st_mm s)) rfl ?_
            exact bi_Tv rfl rfl (Or.inl ⟨_, _, rfl, h⟩)
      · have h := h.2 hc
        refine bi_Tr 2 (s' := (61, [(0, .int x0)], [.int (3 : Int32)], st_mm s)) rfl ?_
        exact bi_Tv rfl rfl (Or.inl ⟨_, _, rfl, h⟩)
    · have h := h.2 hc
      refine bi_Tr 2 (s' := (61, [(0, .int x0)], [.int (2 : Int32)], st_mm s)) rfl ?_
      exact bi_Tv rfl rfl (Or.inl ⟨_, _, rfl, h⟩)
  · have h := h.2 hc
    refine bi_Tr 2 (s' := (61, [(0, .int x0)], [.int (1 : Int32)], st_mm s)) rfl ?_
    exact bi_Tv rfl rfl (Or.inl ⟨_, _, rfl, h⟩)
def at_X12_drops_0 (X : bi_X) (d : Nat) (K : bi_St → Prop) (E : Nat → bi_St → Prop) (s : bi_St) (y1 : Int32) : Prop := bi_T X d 187 (0, [(0, .ref 77), (1, .int y1)], [], st_mm s) (st_RV K E)
theorem go_X12_drops_0 {X : bi_X} {d : Nat} {K : bi_St → Prop} {E : Nat → bi_St → Prop}  {s : bi_St} {y1 : Int32}  (h : (((st_g s 77 20) ≤ 0) → K s) ∧ (¬ ((st_g s 77 20) ≤ 0) → bi_in ((st_g s 77 20) - (1 : Int32)) 950 = true ∧ (cI X d 185 [.int (st_g s 81 (((st_g s 77 20) - (1 : Int32))).toNatClampNeg)] s (fun (r4 : Int32) (s4 : bi_St) => ((¬ r4 = 0) → K s4) ∧ (¬ (¬ r4 = 0) → bi_in ((st_g s4 77 20) - (1 : Int32)) 950 = true ∧ (cI X d 186 [.int (st_g s4 81 (((st_g s4 77 20) - (1 : Int32))).toNatClampNeg)] s4 (fun (r5 : Int32) (s5 : bi_St) => ((r5 < y1) → K s5) ∧ (¬ (r5 < y1) → bi_in (st_g (st_p s5 77 20 ((st_g s5 77 20) - (1 : Int32))) 77 20) 950 = true ∧ (cV X d 184 [.ref 77, .int (st_g (st_p s5 77 20 ((st_g s5 77 20) - (1 : Int32))) 81 ((st_g (st_p s5 77 20 ((st_g s5 77 20) - (1 : Int32))) 77 20)).toNatClampNeg)] (st_p s5 77 20 ((st_g s5 77 20) - (1 : Int32))) (fun (s6 : bi_St) => at_X12_drops_0 X (d + 1) K E s6 (y1)) (fun _ _ => False)))) (fun _ _ => False)))) (fun _ _ => False)))) : at_X12_drops_0 X (d + 1) K E s y1 := by
  show bi_T _ _ _ _ _
  refine bi_Tr 3 (s' := ((if (st_g s 77 20) ≤ 0 then 68 else 7), [(0, .ref 77), (1, .int y1)], [], st_mm s)) rfl (bi_Tif (fun hc => ?_) (fun hc => ?_))
  · have h := h.1 hc
    exact bi_Tv rfl rfl (Or.inl ⟨_, rfl, h⟩)
  · have h := h.2 hc
    refine bi_Tr 6 (s' := (17, [(0, .ref 77), (1, .int y1)], [.int ((st_g s 77 20) - (1 : Int32)), .ref 81], st_mm s)) rfl ?_
    obtain ⟨hi, h⟩ := h
    refine bi_Tial rfl rfl rfl hi ?_
    refine bi_TcI (as := [.int (st_g s 81 (((st_g s 77 20) - (1 : Int32))).toNatClampNeg)]) rfl rfl ?_
    refine cI.mono h (fun r4 s4 h => ?_) (fun _ _ h => h.elim)
    refine bi_Tr 1 (s' := ((if ¬ r4 = 0 then 68 else 24), [(0, .ref 77), (1, .int y1)], [], st_mm s4)) rfl (bi_Tif (fun hc => ?_) (fun hc => ?_))
    · have h := h.1 hc
      exact bi_Tv rfl rfl (Or.inl ⟨_, rfl, h⟩)
    · have h := h.2 hc
      refine bi_Tr 6 (s' := (34, [(0, .ref 77), (1, .int y1)], [.int ((st_g s4 77 20) - (1 : Int32)), .ref 81], st_mm s4)) rfl ?_
      obtain ⟨hi, h⟩ := h
      refine bi_Tial rfl rfl rfl hi ?_
      refine bi_TcI (as := [.int (st_g s4 81 (((st_g s4 77 20) - (1 : Int32))).toNatClampNeg)]) rfl rfl ?_
      refine cI.mono h (fun r5 s5 h => ?_) (fun _ _ h => h.elim)
      refine bi_Tr 2 (s' := ((if r5 < y1 then 68 else 42), [(0, .ref 77), (1, .int y1)], [], st_mm s5)) rfl (bi_Tif (fun hc => ?_) (fun hc => ?_))
      · have h := h.1 hc
        exact bi_Tv rfl rfl (Or.inl ⟨_, rfl, h⟩)
      · have h := h.2 hc
        refine bi_Tr 11 (s' := (61, [(0, .ref 77), (1, .int y1)], [.int (st_g (st_p s5 77 20 ((st_g s5 77 20) - (1 : Int32))) 77 20), .ref 81, .ref 77], st_mm (st_p s5 77 20 ((st_g s5 77 20) - (1 : Int32))))) rfl ?_
        obtain ⟨hi, h⟩ := h
        refine bi_Tial rfl rfl rfl hi ?_
        refine bi_TcV (as := [.ref 77, .int (st_g (st_p s5 77 20 ((st_g s5 77 20) - (1 : Int32))) 81 ((st_g (st_p s5 77 20 ((st_g s5 77 20) - (1 : Int32))) 77 20)).toNatClampNeg)]) rfl rfl ?_
        refine cV.mono h (fun s6 h => ?_) (fun _ _ h => h.elim)
        refine bi_Tr 1 (s' := (0, [(0, .ref 77), (1, .int y1)], [], st_mm s6)) rfl ?_
        exact bi_Tww h rfl rfl ⟨rfl, rfl, trivial⟩
/-- PolicyRowsModel.drops(I)V -/
theorem en_X12_drops {X : bi_X} {d : Nat} {K : bi_St → Prop} {E : Nat → bi_St → Prop} {s : bi_St} {x0 : Int32}  (h : (((st_g s 77 20) ≤ 0) → K s) ∧ (¬ ((st_g s 77 20) ≤ 0) → bi_in ((st_g s 77 20) - (1 : Int32)) 950 = true ∧ (cI X d 185 [.int (st_g s 81 (((st_g s 77 20) - (1 : Int32))).toNatClampNeg)] s (fun (r1 : Int32) (s1 : bi_St) => ((¬ r1 = 0) → K s1) ∧ (¬ (¬ r1 = 0) → bi_in ((st_g s1 77 20) - (1 : Int32)) 950 = true ∧ (cI X d 186 [.int (st_g s1 81 (((st_g s1 77 20) - (1 : Int32))).toNatClampNeg)] s1 (fun (r2 : Int32) (s2 : bi_St) => ((r2 < x0) → K s2) ∧ (¬ (r2 < x0) → bi_in (st_g (st_p s2 77 20 ((st_g s2 77 20) - (1 : Int32))) 77 20) 950 = true ∧ (cV X d 184 [.ref 77, .int (st_g (st_p s2 77 20 ((st_g s2 77 20) - (1 : Int32))) 81 ((st_g (st_p s2 77 20 ((st_g s2 77 20) - (1 : Int32))) 77 20)).toNatClampNeg)] (st_p s2 77 20 ((st_g s2 77 20) - (1 : Int32))) (fun (s3 : bi_St) => at_X12_drops_0 X (d + 1) K E s3 (x0)) (fun _ _ => False)))) (fun _ _ => False)))) (fun _ _ => False)))) : cV X (d + 1) 187 [.ref 77, .int x0] s K E := by
  show bi_T _ _ _ _ _
  refine bi_Tr 3 (s' := ((if (st_g s 77 20) ≤ 0 then 68 else 7), [(0, .ref 77), (1, .int x0)], [], st_mm s)) rfl (bi_Tif (fun hc => ?_) (fun hc => ?_))
  · have h := h.1 hc
    exact bi_Tv rfl rfl (Or.inl ⟨_, rfl, h⟩)
  · have h := h.2 hc
    refine bi_Tr 6 (s' := (17, [(0, .ref 77), (1, .int x0)], [.int ((st_g s 77 20) - (1 : Int32)), .ref 81], st_mm s)) rfl ?_
    obtain ⟨hi, h⟩ := h
    refine bi_Tial rfl rfl rfl hi ?_
    refine bi_TcI (as := [.int (st_g s 81 (((st_g s 77 20) - (1 : Int32))).toNatClampNeg)]) rfl rfl ?_
    refine cI.mono h (fun r1 s1 h => ?_) (fun _ _ h => h.elim)
    refine bi_Tr 1 (s' := ((if ¬ r1 = 0 then 68 else 24), [(0, .ref 77), (1, .int x0)], [], st_mm s1)) rfl (bi_Tif (fun hc => ?_) (fun hc => ?_))
    · have h := h.1 hc
      exact bi_Tv rfl rfl (Or.inl ⟨_, rfl, h⟩)
    · have h := h.2 hc
      refine bi_Tr 6 (s' := (34, [(0, .ref 77), (1, .int x0)], [.int ((st_g s1 77 20) - (1 : Int32)), .ref 81], st_mm s1)) rfl ?_
      obtain ⟨hi, h⟩ := h
      refine bi_Tial rfl rfl rfl hi ?_
      refine bi_TcI (as := [.int (st_g s1 81 (((st_g s1 77 20) - (1 : Int32))).toNatClampNeg)]) rfl rfl ?_
      refine cI.mono h (fun r2 s2 h => ?_) (fun _ _ h => h.elim)
      refine bi_Tr 2 (s' := ((if r2 < x0 then 68 else 42), [(0, .ref 77), (1, .int x0)], [], st_mm s2)) rfl (bi_Tif (fun hc => ?_) (fun hc => ?_))
      · have h := h.1 hc
        exact bi_Tv rfl rfl (Or.inl ⟨_, rfl, h⟩)
      · have h := h.2 hc
        refine bi_Tr 11 (s' := (61, [(0, .ref 77), (1, .int x0)], [.int (st_g (st_p s2 77 20 ((st_g s2 77 20) - (1 : Int32))) 77 20), .ref 81, .ref 77], st_mm (st_p s2 77 20 ((st_g s2 77 20) - (1 : Int32))))) rfl ?_
        obtain ⟨hi, h⟩ := h
        refine bi_Tial rfl rfl rfl hi ?_
        refine bi_TcV (as := [.ref 77, .int (st_g (st_p s2 77 20 ((st_g s2 77 20) - (1 : Int32))) 81 ((st_g (st_p s2 77 20 ((st_g s2 77 20) - (1 : Int32))) 77 20)).toNatClampNeg)]) rfl rfl ?_
        refine cV.mono h (fun s3 h => ?_) (fun _ _ h => h.elim)
        refine bi_Tr 1 (s' := (0, [(0, .ref 77), (1, .int x0)], [], st_mm s3)) rfl ?_
        exact bi_Tww h rfl rfl ⟨rfl, rfl, trivial⟩
/-- PolicyRowsModel.waitsFor(I)V -/
theorem en_X12_waitsFor {X : bi_X} {d : Nat} {K : bi_St → Prop} {E : Nat → bi_St → Prop} {s : bi_St} {x0 : Int32}  (h : bi_in (st_g s 77 20) 950 = true ∧ (K (st_p (st_p s 81 ((st_g s 77 20)).toNatClampNeg x0) 77 20 ((st_g (st_p s 81 ((st_g s 77 20)).toNatClampNeg x0) 77 20) + (1 : Int32))))) : cV X d 188 [.ref 77, .int x0] s K E := by
  show bi_T _ _ _ _ _
  refine bi_Tr 5 (s' := (9, [(0, .ref 77), (1, .int x0)], [.int x0, .int (st_g s 77 20), .ref 81], st_mm s)) rfl ?_
  obtain ⟨hi, h⟩ := h
  refine bi_Tias rfl rfl hi ?_
  refine bi_Tr 6 (s' := (20, [(0, .ref 77), (1, .int x0)], [], st_mm (st_p (st_p s 81 ((st_g s 77 20)).toNatClampNeg x0) 77 20 ((st_g (st_p s 81 ((st_g s 77 20)).toNatClampNeg x0) 77 20) + (1 : Int32))))) rfl ?_
  exact bi_Tv rfl rfl (Or.inl ⟨_, rfl, h⟩)
def at_X12_part_141 (X : bi_X) (d : Nat) (K : bi_St → Prop) (E : Nat → bi_St → Prop) (s : bi_St)  : Prop := bi_T X d 189 (141, [(0, .ref 77)], [], st_mm s) (st_RV K E)
def at_X12_part_123 (X : bi_X) (d : Nat) (K : bi_St → Prop) (E : Nat → bi_St → Prop) (s : bi_St) (y2 : Int32) : Prop := bi_T X d 189 (123, [(0, .ref 77), (2, .int y2)], [], st_mm s) (st_RV K E)
def at_X12_part_133 (X : bi_X) (d : Nat) (K : bi_St → Prop) (E : Nat → bi_St → Prop) (s : bi_St)  : Prop := bi_T X d 189 (133, [(0, .ref 77)], [], st_mm s) (st_RV K E)
def at_X12_part_29 (X : bi_X) (d : Nat) (K : bi_St → Prop) (E : Nat → bi_St → Prop) (s : bi_St)  : Prop := bi_T X d 189 (29, [(0, .ref 77)], [], st_mm s) (st_RV K E)
def at_X12_part_152 (X : bi_X) (d : Nat) (K : bi_St → Prop) (E : Nat → bi_St → Prop) (s : bi_St)  : Prop := bi_T X d 189 (152, [], [], st_mm s) (st_RV K E)
theorem go_X12_part_141 {X : bi_X} {d : Nat} {K : bi_St → Prop} {E : Nat → bi_St → Prop}  {s : bi_St}   (h : cI X d 177 [.ref 77] s (fun (r11 : Int32) (s11 : bi_St) => ((r11 = 0) → at_X12_part_152 X (d + 1) K E s11) ∧ (¬ (r11 = 0) → cV X d 172 [.ref 77] s11 (fun (s12 : bi_St) => at_X12_part_152 X (d + 1) K E s12) (fun _ _ => False))) (fun _ _ => False)) : at_X12_part_141 X (d + 1) K E s  := by
  show bi_T _ _ _ _ _
  refine bi_Tr 1 (s' := (142, [(0, .ref 77)], [.ref 77], st_mm s)) rfl ?_
  refine bi_TcI (as := [.ref 77]) rfl rfl ?_
  refine cI.mono h (fun r11 s11 h => ?_) (fun _ _ h => h.elim)
  refine bi_Tr 1 (s' := ((if r11 = 0 then 152 else 148), [(0, .ref 77)], [], st_mm s11)) rfl (bi_Tif (fun hc => ?_) (fun hc => ?_))
  · have h := h.1 hc
    exact bi_Tww h rfl rfl trivial
  · have h := h.2 hc
    refine bi_Tr 1 (s' := (149, [(0, .ref 77)], [.ref 77], st_mm s11)) rfl ?_
    refine bi_TcV (as := [.ref 77]) rfl rfl ?_
    refine cV.mono h (fun s12 h => ?_) (fun _ _ h => h.elim)
    exact bi_Tww h rfl rfl trivial
theorem go_X12_part_123 {X : bi_X} {d : Nat} {K : bi_St → Prop} {E : Nat → bi_St → Prop}  {s : bi_St} {y2 : Int32}  (h : cV X d 184 [.ref 77, .int (2 : Int32)] s (fun (s13 : bi_St) => cV X d 184 [.ref 77, .int y2] s13 (fun (s14 : bi_St) => at_X12_part_133 X (d + 1) K E s14) (fun _ _ => False)) (fun _ _ => False)) : at_X12_part_123 X (d + 1) K E s y2 := by
  show bi_T _ _ _ _ _
  refine bi_Tr 2 (s' := (125, [(0, .ref 77), (2, .int y2)], [.int (2 : Int32), .ref 77], st_mm s)) rfl ?_
  refine bi_TcV (as := [.ref 77, .int (2 : Int32)]) rfl rfl ?_
  refine cV.mono h (fun s13 h => ?_) (fun _ _ h => h.elim)
  refine bi_Tr 2 (s' := (130, [(0, .ref 77), (2, .int y2)], [.int y2, .ref 77], st_mm s13)) rfl ?_
  refine bi_TcV (as := [.ref 77, .int y2]) rfl rfl ?_
  refine cV.mono h (fun s14 h => ?_) (fun _ _ h => h.elim)
  exact bi_Tww h rfl rfl ⟨rfl, trivial⟩
theorem go_X12_part_133 {X : bi_X} {d : Nat} {K : bi_St → Prop} {E : Nat → bi_St → Prop}  {s : bi_St}   (h : at_X12_part_141 X (d + 1) K E s) : at_X12_part_133 X (d + 1) K E s  := by
  show bi_T _ _ _ _ _
  refine bi_Tr 1 (s' := (141, [(0, .ref 77)], [], st_mm s)) rfl ?_
  exact bi_Tww h rfl rfl ⟨rfl, trivial⟩
theorem go_X12_part_29 {X : bi_X} {d : Nat} {K : bi_St → Prop} {E : Nat → bi_St → Prop}  {s : bi_St}   (h : cV X d 184 [.ref 77, .int (1 : Int32)] (st_p s 77 22 ((st_g s 77 22) + (1 : Int32))) (fun (s15 : bi_St) => cV X d 184 [.ref 77, .int (st_g s15 77 11)] s15 (fun (s16 : bi_St) => at_X12_part_141 X (d + 1) K E s16) (fun _ _ => False)) (fun _ _ => False)) : at_X12_part_29 X (d + 1) K E s  := by
  show bi_T _ _ _ _ _
  refine bi_Tr 8 (s' := (41, [(0, .ref 77)], [.int (1 : Int32), .ref 77], st_mm (st_p s 77 22 ((st_g s 77 22) + (1 : Int32))))) rfl ?_
  refine bi_TcV (as := [.ref 77, .int (1 : Int32)]) rfl rfl ?_
  refine cV.mono h (fun s15 h => ?_) (fun _ _ h => h.elim)
  refine bi_Tr 3 (s' := (49, [(0, .ref 77)], [.int (st_g s15 77 11), .ref 77], st_mm s15)) rfl ?_
  refine bi_TcV (as := [.ref 77, .int (st_g s15 77 11)]) rfl rfl ?_
  refine cV.mono h (fun s16 h => ?_) (fun _ _ h => h.elim)
  refine bi_Tr 1 (s' := (141, [(0, .ref 77)], [], st_mm s16)) rfl ?_
  exact bi_Tww h rfl rfl ⟨rfl, trivial⟩
theorem go_X12_part_152 {X : bi_X} {d : Nat} {K : bi_St → Prop} {E : Nat → bi_St → Prop}  {s : bi_St}   (h : K s) : at_X12_part_152 X (d + 1) K E s  := by
  show bi_T _ _ _ _ _
  exact bi_Tv rfl rfl (Or.inl ⟨_, rfl, h⟩)
/-- PolicyRowsModel.part()V -/
theorem en_X12_part {X : bi_X} {d : Nat} {K : bi_St → Prop} {E : Nat → bi_St → Prop} {s : bi_St}   (h : cI X d 177 [.ref 77] s (fun (r1 : Int32) (s1 : bi_St) => ((¬ r1 = 0) → ((¬ (st_g s1 77 8) = (2 : Int32)) → ((¬ (st_g s1 77 8) = (1 : Int32)) → cV X d 176 [.ref 77, .int (1 : Int32)] s1 (fun (s2 : bi_St) => at_X12_part_141 X (d + 1) K E s2) (fun _ _ => False)) ∧ (¬ (¬ (st_g s1 77 8) = (1 : Int32)) → cI X d 175 [.ref 77] s1 (fun (r3 : Int32) (s3 : bi_St) => ((¬ r3 = (20 : Int32)) → cI X d 183 [.ref 77, .int r3] (st_p s3 77 22 ((st_g s3 77 22) + (1 : Int32))) (fun (r4 : Int32) (s4 : bi_St) => ((¬ r4 = (-1 : Int32)) → at_X12_part_123 X (d + 1) K E s4 (r4)) ∧ (¬ (¬ r4 = (-1 : Int32)) → cV X d 176 [.ref 77, .int (3 : Int32)] s4 (fun (s5 : bi_St) => at_X12_part_123 X (d + 1) K E s5 (r4)) (fun _ _ => False))) (fun _ _ => False)) ∧ (¬ (¬ r3 = (20 : Int32)) → cV X d 172 [.ref 77] (st_p s3 77 22 ((st_g s3 77 22) + (1 : Int32))) (fun (s6 : bi_St) => cI X d 182 [.ref 77] s6 (fun (r7 : Int32) (s7 : bi_St) => cV X d 184 [.ref 77, .int (12 : Int32)] s7 (fun (s8 : bi_St) => cV X d 184 [.ref 77, .int r7] s8 (fun (s9 : bi_St) => at_X12_part_133 X (d + 1) K E s9) (fun _ _ => False)) (fun _ _ => False)) (fun _ _ => False)) (fun _ _ => False))) (fun _ _ => False))) ∧ (¬ (¬ (st_g s1 77 8) = (2 : Int32)) → (((st_g s1 77 10) ≤ (4 : Int32)) → at_X12_part_29 X (d + 1) K E s1) ∧ (¬ ((st_g s1 77 10) ≤ (4 : Int32)) → cV X d 176 [.ref 77, .int (2 : Int32)] s1 (fun (s10 : bi_St) => at_X12_part_29 X (d + 1) K E s10) (fun _ _ => False)))) ∧ (¬ (¬ r1 = 0) → K s1)) (fun _ _ => False)) : cV X (d + 1) 189 [.ref 77] s K E := by
  show bi_T _ _ _ _ _
  refine bi_Tr 1 (s' := (1, [(0, .ref 77)], [.ref 77], st_mm s)) rfl ?_
  refine bi_TcI (as := [.ref 77]) rfl rfl ?_
  refine cI.mono h (fun r1 s1 h => ?_) (fun _ _ h => h.elim)
  refine bi_Tr 1 (s' := ((if ¬ r1 = 0 then 8 else 7), [(0, .ref 77)], [], st_mm s1)) rfl (bi_Tif (fun hc => ?_) (fun hc => ?_))
  · have h := h.1 hc
    refine bi_Tr 4 (s' := ((if ¬ (st_g s1 77 8) = (2 : Int32) then 55 else 16), [(0, .ref 77)], [], st_mm s1)) rfl (bi_Tif (fun hc => ?_) (fun hc => ?_))
    · have h := h.1 hc
      refine bi_Tr 4 (s' := ((if ¬ (st_g s1 77 8) = (1 : Int32) then 136 else 63), [(0, .ref 77)], [], st_mm s1)) rfl (bi_Tif (fun hc => ?_) (fun hc => ?_))
      · have h := h.1 hc
        refine bi_Tr 2 (s' := (138, [(0, .ref 77)], [.int (1 : Int32), .ref 77], st_mm s1)) rfl ?_
        refine bi_TcV (as := [.ref 77, .int (1 : Int32)]) rfl rfl ?_
        refine cV.mono h (fun s2 h => ?_) (fun _ _ h => h.elim)
        exact bi_Tww h rfl rfl ⟨rfl, trivial⟩
      · have h := h.2 hc
        refine bi_Tr 1 (s' := (64, [(0, .ref 77)], [.ref 77], st_mm s1)) rfl ?_
        refine bi_TcI (as := [.ref 77]) rfl rfl ?_
        refine cI.mono h (fun r3 s3 h => ?_) (fun _ _ h => h.elim)
        refine bi_Tr 10 (s' := ((if ¬ r3 = (20 : Int32) then 107 else 84), [(1, .int r3), (0, .ref 77)], [], st_mm (st_p s3 77 22 ((st_g s3 77 22) + (1 : Int32))))) rfl (bi_Tif (fun hc => ?_) (fun hc => ?_))
        · have h := h.1 hc
          refine bi_Tr 2 (s' := (109, [(1, .int r3), (0, .ref 77)], [.int r3, .ref 77], st_mm (st_p s3 77 22 ((st_g s3 77 22) + (1 : Int32))))) rfl ?_
          refine bi_TcI (as := [.ref 77, .int r3]) rfl rfl ?_
          refine cI.mono h (fun r4 s4 h => ?_) (fun _ _ h => h.elim)
          refine bi_Tr 4 (s' := ((if ¬ r4 = (-1 : Int32) then 123 else 118), [(2, .int r4), (1, .int r3), (0, .ref 77)], [], st_mm s4)) rfl (bi_Tif (fun hc => ?_) (fun hc => ?_))
          · have h := h.1 hc
            exact bi_Tww h rfl rfl ⟨rfl, rfl, trivial⟩
          · have h := h.2 hc
            refine bi_Tr 2 (s' := (120, [(2, .int r4), (1, .int r3), (0, .ref 77)], [.int (3 : Int32), .ref 77], st_mm s4)) rfl ?_
            refine bi_TcV (as := [.ref 77, .int (3 : Int32)]) rfl rfl ?_
            refine cV.mono h (fun s5 h => ?_) (fun _ _ h => h.elim)
            exact bi_Tww h rfl rfl ⟨rfl, rfl, trivial⟩
        · have h := h.2 hc
          refine bi_Tr 1 (s' := (85, [(1, .int r3), (0, .ref 77)], [.ref 77], st_mm (st_p s3 77 22 ((st_g s3 77 22) + (1 : Int32))))) rfl ?_
          refine bi_TcV (as := [.ref 77]) rfl rfl ?_
          refine cV.mono h (fun s6 h => ?_) (fun _ _ h => h.elim)
          refine bi_Tr 1 (s' := (89, [(1, .int r3), (0, .ref 77)], [.ref 77], st_mm s6)) rfl ?_
          refine bi_TcI (as := [.ref 77]) rfl rfl ?_
          refine cI.mono h (fun r7 s7 h => ?_) (fun _ _ h => h.elim)
          refine bi_Tr 3 (s' := (96, [(2, .int r7), (1, .int r3), (0, .ref 77)], [.int (12 : Int32), .ref 77], st_mm s7)) rfl ?_
          refine bi_TcV (as := [.ref 77, .int (12 : Int32)]) rfl rfl ?_
          refine cV.mono h (fun s8 h => ?_) (fun _ _ h => h.elim)
          refine bi_Tr 2 (s' := (101, [(2, .int r7), (1, .int r3), (0, .ref 77)], [.int r7, .ref 77], st_mm s8)) rfl ?_
          refine bi_TcV (as := [.ref 77, .int r7]) rfl rfl ?_
          refine cV.mono h (fun s9 h => ?_) (fun _ _ h => h.elim)
          refine bi_Tr 1 (s' := (133, [(2, .int r7), (1, .int r3), (0, .ref 77)], [], st_mm s9)) rfl ?_
          exact bi_Tww h rfl rfl ⟨rfl, trivial⟩
    · have h := h.2 hc
      refine bi_Tr 4 (s' := ((if (st_g s1 77 10) ≤ (4 : Int32) then 29 else 24), [(0, .ref 77)], [], st_mm s1)) rfl (bi_Tif (fun hc => ?_) (fun hc => ?_))
      · have h := h.1 hc
        exact bi_Tww h rfl rfl ⟨rfl, trivial⟩
      · have h := h.2 hc
        refine bi_Tr 2 (s' := (26, [(0, .ref 77)], [.int (2 : Int32), .ref 77], st_mm s1)) rfl ?_
        refine bi_TcV (as := [.ref 77, .int (2 : Int32)]) rfl rfl ?_
        refine cV.mono h (fun s10 h => ?_) (fun _ _ h => h.elim)
        exact bi_Tww h rfl rfl ⟨rfl, trivial⟩
  · have h := h.2 hc
    exact bi_Tv rfl rfl (Or.inl ⟨_, rfl, h⟩)
/-- PolicyRowsModel.deeper()V -/
theorem en_X12_deeper {X : bi_X} {d : Nat} {K : bi_St → Prop} {E : Nat → bi_St → Prop} {s : bi_St}   (h : (((6 : Int32) ≤ (st_g s 77 21)) → (((st_g s 77 8) = (2 : Int32)) → cV X d 176 [.ref 77, .int (2 : Int32)] s (fun (s1 : bi_St) => K s1) (fun _ _ => False)) ∧ (¬ ((st_g s 77 8) = (2 : Int32)) → (((st_g s 77 8) = (1 : Int32)) → cV X d 176 [.ref 77, .int (2 : Int32)] s (fun (s2 : bi_St) => K s2) (fun _ _ => False)) ∧ (¬ ((st_g s 77 8) = (1 : Int32)) → cI X d 178 [.ref 77, .int (40 : Int32)] s (fun (r3 : Int32) (s3 : bi_St) => ((r3 = 0) → cV X d 176 [.ref 77, .int (1 : Int32)] s3 (fun (s4 : bi_St) => K s4) (fun _ _ => False)) ∧ (¬ (r3 = 0) → cV X d 176 [.ref 77, .int (2 : Int32)] s3 (fun (s5 : bi_St) => K s5) (fun _ _ => False))) (fun _ _ => False)))) ∧ (¬ ((6 : Int32) ≤ (st_g s 77 21)) → bi_in (st_g (st_p s 77 21 ((st_g s 77 21) + (1 : Int32))) 77 21) 9 = true ∧ (K (st_p (st_p s 77 21 ((st_g s 77 21) + (1 : Int32))) 82 ((st_g (st_p s 77 21 ((st_g s 77 21) + (1 : Int32))) 77 21)).toNatClampNeg (bi_nar 15 (0 : Int32)))))) : cV X (d + 1) 190 [.ref 77] s K E := by
  show bi_T _ _ _ _ _
  refine bi_Tr 4 (s' := ((if (6 : Int32) ≤ (st_g s 77 21) then 30 else 9), [(0, .ref 77)], [], st_mm s)) rfl (bi_Tif (fun hc => ?_) (fun hc => ?_))
  · have h := h.1 hc
    refine bi_Tr 5 (s' := ((if (st_g s 77 8) = (2 : Int32) then 56 else 39), [(0, .ref 77)], [.ref 77], st_mm s)) rfl (bi_Tif (fun hc => ?_) (fun hc => ?_))
    · have h := h.1 hc
      refine bi_Tr 2 (s' := (61, [(0, .ref 77)], [.int (2 : Int32), .ref 77], st_mm s)) rfl ?_
      refine bi_TcV (as := [.ref 77, .int (2 : Int32)]) rfl rfl ?_
      refine cV.mono h (fun s1 h => ?_) (fun _ _ h => h.elim)
      exact bi_Tv rfl rfl (Or.inl ⟨_, rfl, h⟩)
    · have h := h.2 hc
      refine bi_Tr 4 (s' := ((if (st_g s 77 8) = (1 : Int32) then 56 else 47), [(0, .ref 77)], [.ref 77], st_mm s)) rfl (bi_Tif (fun hc => ?_) (fun hc => ?_))
      · have h := h.1 hc
        refine bi_Tr 2 (s' := (61, [(0, .ref 77)], [.int (2 : Int32), .ref 77], st_mm s)) rfl ?_
        refine bi_TcV (as := [.ref 77, .int (2 : Int32)]) rfl rfl ?_
        refine cV.mono h (fun s2 h => ?_) (fun _ _ h => h.elim)
        exact bi_Tv rfl rfl (Or.inl ⟨_, rfl, h⟩)
      · have h := h.2 hc
        refine bi_Tr 2 (s' := (50, [(0, .ref 77)], [.int (40 : Int32), .ref 77, .ref 77], st_mm s)) rfl ?_
        refine bi_TcI (as := [.ref 77, .int (40 : Int32)]) rfl rfl ?_
        refine cI.mono h (fun r3 s3 h => ?_) (fun _ _ h => h.elim)
        refine bi_Tr 1 (s' := ((if r3 = 0 then 60 else 56), [(0, .ref 77)], [.ref 77], st_mm s3)) rfl (bi_Tif (fun hc => ?_) (fun hc => ?_))
        · have h := h.1 hc
          refine bi_Tr 1 (s' := (61, [(0, .ref 77)], [.int (1 : Int32), .ref 77], st_mm s3)) rfl ?_
          refine bi_TcV (as := [.ref 77, .int (1 : Int32)]) rfl rfl ?_
          refine cV.mono h (fun s4 h => ?_) (fun _ _ h => h.elim)
          exact bi_Tv rfl rfl (Or.inl ⟨_, rfl, h⟩)
        · have h := h.2 hc
          refine bi_Tr 2 (s' := (61, [(0, .ref 77)], [.int (2 : Int32), .ref 77], st_mm s3)) rfl ?_
          refine bi_TcV (as := [.ref 77, .int (2 : Int32)]) rfl rfl ?_
          refine cV.mono h (fun s5 h => ?_) (fun _ _ h => h.elim)
          exact bi_Tv rfl rfl (Or.inl ⟨_, rfl, h⟩)
  · have h := h.2 hc
    refine bi_Tr 11 (s' := (28, [(0, .ref 77)], [.int (0 : Int32), .int (st_g (st_p s 77 21 ((st_g s 77 21) + (1 : Int32))) 77 21), .ref 82], st_mm (st_p s 77 21 ((st_g s 77 21) + (1 : Int32))))) rfl ?_
    obtain ⟨hi, h⟩ := h
    refine bi_Tbas rfl rfl rfl hi ?_
    exact bi_Tv rfl rfl (Or.inl ⟨_, rfl, h⟩)
def at_X12_operand_4 (X : bi_X) (d : Nat) (K : bi_St → Prop) (E : Nat → bi_St → Prop) (s : bi_St) (y2 : Int32) (y3 : Int32) : Prop := bi_T X d 191 (4, [(0, .ref 77), (2, .int y2), (3, .int y3)], [], st_mm s) (st_RV K E)
def at_X12_operand_201 (X : bi_X) (d : Nat) (K : bi_St → Prop) (E : Nat → bi_St → Prop) (s : bi_St)  : Prop := bi_T X d 191 (201, [(0, .ref 77)], [], st_mm s) (st_RV K E)
def at_X12_operand_18 (X : bi_X) (d : Nat) (K : bi_St → Prop) (E : Nat → bi_St → Prop) (s : bi_St) (y2 : Int32) (y4 : Int32) : Prop := bi_T X d 191 (18, [(0, .ref 77), (2, .int y2), (4, .int y4)], [], st_mm s) (st_RV K E)
def at_X12_operand_85 (X : bi_X) (d : Nat) (K : bi_St → Prop) (E : Nat → bi_St → Prop) (s : bi_St) (y2 : Int32) : Prop := bi_T X d 191 (85, [(0, .ref 77), (2, .int y2)], [], st_mm s) (st_RV K E)
def at_X12_operand_50 (X : bi_X) (d : Nat) (K : bi_St → Prop) (E : Nat → bi_St → Prop) (s : bi_St) (y2 : Int32) (y4 : Int32) : Prop := bi_T X d 191 (50, [(0, .ref 77), (2, .int y2), (4, .int y4)], [], st_mm s) (st_RV K E)
def at_X12_operand_105 (X : bi_X) (d : Nat) (K : bi_St → Prop) (E : Nat → bi_St → Prop) (s : bi_St) (y2 : Int32) : Prop := bi_T X d 191 (105, [(0, .ref 77), (2, .int y2)], [], st_mm s) (st_RV K E)
def at_X12_operand_146 (X : bi_X) (d : Nat) (K : bi_St → Prop) (E : Nat → bi_St → Prop) (s : bi_St) (y2 : Int32) (y5 : Int32) : Prop := bi_T X d 191 (146, [(0, .ref 77), (2, .int y2), (5, .int y5)], [], st_mm s) (st_RV K E)
def at_X12_operand_166 (X : bi_X) (d : Nat) (K : bi_St → Prop) (E : Nat → bi_St → Prop) (s : bi_St) (y2 : Int32) (y5 : Int32) : Prop := bi_T X d 191 (166, [(0, .ref 77), (2, .int y2), (5, .int y5)], [], st_mm s) (st_RV K E)
def at_X12_operand_198 (X : bi_X) (d : Nat) (K : bi_St → Prop) (E : Nat → bi_St → Prop) (s : bi_St) (y2 : Int32) (y3 : Int32) : Prop := bi_T X d 191 (198, [(0, .ref 77), (2, .int y2), (3, .int y3)], [], st_mm s) (st_RV K E)
theorem go_X12_operand_4 {X : bi_X} {d : Nat} {K : bi_St → Prop} {E : Nat → bi_St → Prop}  {s : bi_St} {y2 : Int32} {y3 : Int32}  (h : ((y3 = 0) → at_X12_operand_201 X (d + 1) K E s) ∧ (¬ (y3 = 0) → cI X d 177 [.ref 77] s (fun (r1 : Int32) (s1 : bi_St) => ((r1 = 0) → at_X12_operand_201 X (d + 1) K E s1) ∧ (¬ (r1 = 0) → at_X12_operand_18 X (d + 1) K E s1 (y2) ((0 : Int32)))) (fun _ _ => False))) : at_X12_operand_4 X (d + 1) K E s y2 y3 := by
  show bi_T _ _ _ _ _
  refine bi_Tr 2 (s' := ((if y3 = 0 then 201 else 8), [(0, .ref 77), (2, .int y2), (3, .int y3)], [], st_mm s)) rfl (bi_Tif (fun hc => ?_) (fun hc => ?_))
  · have h := h.1 hc
    exact bi_Tww h rfl rfl ⟨rfl, trivial⟩
  · have h := h.2 hc
    refine bi_Tr 1 (s' := (9, [(0, .ref 77), (2, .int y2), (3, .int y3)], [.ref 77], st_mm s)) rfl ?_
    refine bi_TcI (as := [.ref 77]) rfl rfl ?_
    refine cI.mono h (fun r1 s1 h => ?_) (fun _ _ h => h.elim)
    refine bi_Tr 1 (s' := ((if r1 = 0 then 201 else 15), [(0, .ref 77), (2, .int y2), (3, .int y3)], [], st_mm s1)) rfl (bi_Tif (fun hc => ?_) (fun hc => ?_))
    · have h := h.1 hc
      exact bi_Tww h rfl rfl ⟨rfl, trivial⟩
    · have h := h.2 hc
      refine bi_Tr 2 (s' := (18, [(4, .int (0 : Int32)), (0, .ref 77), (2, .int y2), (3, .int y3)], [], st_mm s1)) rfl ?_
      exact bi_Tww h rfl rfl ⟨rfl, rfl, rfl, trivial⟩
theorem go_X12_operand_201 {X : bi_X} {d : Nat} {K : bi_St → Prop} {E : Nat → bi_St → Prop}  {s : bi_St}   (h : cV X d 189 [.ref 77] s (fun (s2 : bi_St) => K s2) (fun _ _ => False)) : at_X12_operand_201 X (d + 1) K E s  := by
  show bi_T _ _ _ _ _
  refine bi_Tr 1 (s' := (202, [(0, .ref 77)], [.ref 77], st_mm s)) rfl ?_
  refine bi_TcV (as := [.ref 77]) rfl rfl ?_
  refine cV.mono h (fun s2 h => ?_) (fun _ _ h => h.elim)
  exact bi_Tv rfl rfl (Or.inl ⟨_, rfl, h⟩)
theorem go_X12_operand_18 {X : bi_X} {d : Nat} {K : bi_St → Prop} {E : Nat → bi_St → Prop}  {s : bi_St} {y2 : Int32} {y4 : Int32}  (h : cI X d 177 [.ref 77] s (fun (r3 : Int32) (s3 : bi_St) => ((r3 = 0) → at_X12_operand_85 X (d + 1) K E s3 (y2)) ∧ (¬ (r3 = 0) → ((y2 = 0) → at_X12_operand_85 X (d + 1) K E s3 (y2)) ∧ (¬ (y2 = 0) → cI X d 175 [.ref 77] s3 (fun (r4 : Int32) (s4 : bi_St) => ((¬ r4 = (24 : Int32)) → at_X12_operand_85 X (d + 1) K E s4 (y2)) ∧ (¬ (¬ r4 = (24 : Int32)) → ((¬ y4 = (6 : Int32)) → at_X12_operand_50 X (d + 1) K E s4 (y2) (y4)) ∧ (¬ (¬ y4 = (6 : Int32)) → cV X d 176 [.ref 77, .int (2 : Int32)] s4 (fun (s5 : bi_St) => at_X12_operand_50 X (d + 1) K E s5 (y2) (y4)) (fun _ _ => False)))) (fun _ _ => False)))) (fun _ _ => False)) : at_X12_operand_18 X (d + 1) K E s y2 y4 := by
  show bi_T _ _ _ _ _
  refine bi_Tr 1 (s' := (19, [(0, .ref 77), (2, .int y2), (4, .int y4)], [.ref 77], st_mm s)) rfl ?_
  refine bi_TcI (as := [.ref 77]) rfl rfl ?_
  refine cI.mono h (fun r3 s3 h => ?_) (fun _ _ h => h.elim)
  refine bi_Tr 1 (s' := ((if r3 = 0 then 85 else 25), [(0, .ref 77), (2, .int y2), (4, .int y4)], [], st_mm s3)) rfl (bi_Tif (fun hc => ?_) (fun hc => ?_))
  · have h := h.1 hc
    exact bi_Tww h rfl rfl ⟨rfl, rfl, trivial⟩
  · have h := h.2 hc
    refine bi_Tr 2 (s' := ((if y2 = 0 then 85 else 29), [(0, .ref 77), (2, .int y2), (4, .int y4)], [], st_mm s3)) rfl (bi_Tif (fun hc => ?_) (fun hc => ?_))
    · have h := h.1 hc
      exact bi_Tww h rfl rfl ⟨rfl, rfl, trivial⟩
    · have h := h.2 hc
      refine bi_Tr 1 (s' := (30, [(0, .ref 77), (2, .int y2), (4, .int y4)], [.ref 77], st_mm s3)) rfl ?_
      refine bi_TcI (as := [.ref 77]) rfl rfl ?_
      refine cI.mono h (fun r4 s4 h => ?_) (fun _ _ h => h.elim)
      refine bi_Tr 2 (s' := ((if ¬ r4 = (24 : Int32) then 85 else 38), [(0, .ref 77), (2, .int y2), (4, .int y4)], [], st_mm s4)) rfl (bi_Tif (fun hc => ?_) (fun hc => ?_))
      · have h := h.1 hc
        exact bi_Tww h rfl rfl ⟨rfl, rfl, trivial⟩
      · have h := h.2 hc
        refine bi_Tr 3 (s' := ((if ¬ y4 = (6 : Int32) then 50 else 45), [(0, .ref 77), (2, .int y2), (4, .int y4)], [], st_mm s4)) rfl (bi_Tif (fun hc => ?_) (fun hc => ?_))
        · have h := h.1 hc
          exact bi_Tww h rfl rfl ⟨rfl, rfl, rfl, trivial⟩
        · have h := h.2 hc
          refine bi_Tr 2 (s' := (47, [(0, .ref 77), (2, .int y2), (4, .int y4)], [.int (2 : Int32), .ref 77], st_mm s4)) rfl ?_
          refine bi_TcV (as := [.ref 77, .int (2 : Int32)]) rfl rfl ?_
          refine cV.mono h (fun s5 h => ?_) (fun _ _ h => h.elim)
          exact bi_Tww h rfl rfl ⟨rfl, rfl, rfl, trivial⟩
theorem go_X12_operand_85 {X : bi_X} {d : Nat} {K : bi_St → Prop} {E : Nat → bi_St → Prop}  {s : bi_St} {y2 : Int32}  (h : cI X d 177 [.ref 77] s (fun (r6 : Int32) (s6 : bi_St) => ((r6 = 0) → at_X12_operand_105 X (d + 1) K E s6 (y2)) ∧ (¬ (r6 = 0) → cI X d 175 [.ref 77] s6 (fun (r7 : Int32) (s7 : bi_St) => ((¬ r7 = (21 : Int32)) → at_X12_operand_105 X (d + 1) K E s7 (y2)) ∧ (¬ (¬ r7 = (21 : Int32)) → (((1 : Int32) = 0) → at_X12_operand_146 X (d + 1) K E s7 (y2) ((1 : Int32))) ∧ (¬ ((1 : Int32) = 0) → cV X d 172 [.ref 77] (st_p (st_p s7 77 22 ((st_g s7 77 22) + (1 : Int32))) 77 23 (0 : Int32)) (fun (s8 : bi_St) => cI X d 178 [.ref 77, .int (40 : Int32)] s8 (fun (r9 : Int32) (s9 : bi_St) => ((¬ r9 = 0) → at_X12_operand_146 X (d + 1) K E s9 (y2) ((1 : Int32))) ∧ (¬ (¬ r9 = 0) → cV X d 176 [.ref 77, .int (1 : Int32)] s9 (fun (s10 : bi_St) => at_X12_operand_146 X (d + 1) K E s10 (y2) ((1 : Int32))) (fun _ _ => False))) (fun _ _ => False)) (fun _ _ => False)))) (fun _ _ => False))) (fun _ _ => False)) : at_X12_operand_85 X (d + 1) K E s y2 := by
  show bi_T _ _ _ _ _
  refine bi_Tr 1 (s' := (86, [(0, .ref 77), (2, .int y2)], [.ref 77], st_mm s)) rfl ?_
  refine bi_TcI (as := [.ref 77]) rfl rfl ?_
  refine cI.mono h (fun r6 s6 h => ?_) (fun _ _ h => h.elim)
  refine bi_Tr 1 (s' := ((if r6 = 0 then 105 else 92), [(0, .ref 77), (2, .int y2)], [], st_mm s6)) rfl (bi_Tif (fun hc => ?_) (fun hc => ?_))
  · have h := h.1 hc
    exact bi_Tww h rfl rfl ⟨rfl, rfl, trivial⟩
  · have h := h.2 hc
    refine bi_Tr 1 (s' := (93, [(0, .ref 77), (2, .int y2)], [.ref 77], st_mm s6)) rfl ?_
    refine bi_TcI (as := [.ref 77]) rfl rfl ?_
    refine cI.mono h (fun r7 s7 h => ?_) (fun _ _ h => h.elim)
    refine bi_Tr 2 (s' := ((if ¬ r7 = (21 : Int32) then 105 else 101), [(0, .ref 77), (2, .int y2)], [], st_mm s7)) rfl (bi_Tif (fun hc => ?_) (fun hc => ?_))
    · have h := h.1 hc
      exact bi_Tww h rfl rfl ⟨rfl, rfl, trivial⟩
    · have h := h.2 hc
      refine bi_Tr 5 (s' := ((if (1 : Int32) = 0 then 146 else 113), [(5, .int (1 : Int32)), (0, .ref 77), (2, .int y2)], [], st_mm s7)) rfl (bi_Tif (fun hc => ?_) (fun hc => ?_))
      · have h := h.1 hc
        exact bi_Tww h rfl rfl ⟨rfl, rfl, rfl, trivial⟩
      · have h := h.2 hc
        refine bi_Tr 8 (s' := (125, [(5, .int (1 : Int32)), (0, .ref 77), (2, .int y2)], [.int (0 : Int32), .ref 77], st_mm (st_p s7 77 22 ((st_g s7 77 22) + (1 : Int32))))) rfl ?_
        refine bi_Tpz rfl rfl rfl rfl rfl rfl ?_
        refine bi_Tr 1 (s' := (129, [(5, .int (1 : Int32)), (0, .ref 77), (2, .int y2)], [.ref 77], st_mm (st_p (st_p s7 77 22 ((st_g s7 77 22) + (1 : Int32))) 77 23 (0 : Int32)))) rfl ?_
        refine bi_TcV (as := [.ref 77]) rfl rfl ?_
        refine cV.mono h (fun s8 h => ?_) (fun _ _ h => h.elim)
        refine bi_Tr 2 (s' := (135, [(5, .int (1 : Int32)), (0, .ref 77), (2, .int y2)], [.int (40 : Int32), .ref 77], st_mm s8)) rfl ?_
        refine bi_TcI (as := [.ref 77, .int (40 : Int32)]) rfl rfl ?_
        refine cI.mono h (fun r9 s9 h => ?_) (fun _ _ h => h.elim)
        refine bi_Tr 1 (s' := ((if ¬ r9 = 0 then 146 else 141), [(5, .int (1 : Int32)), (0, .ref 77), (2, .int y2)], [], st_mm s9)) rfl (bi_Tif (fun hc => ?_) (fun hc => ?_))
        · have h := h.1 hc
          exact bi_Tww h rfl rfl ⟨rfl, rfl, rfl, trivial⟩
        · have h := h.2 hc
          refine bi_Tr 2 (s' := (143, [(5, .int (1 : Int32)), (0, .ref 77), (2, .int y2)], [.int (1 : Int32), .ref 77], st_mm s9)) rfl ?_
          refine bi_TcV (as := [.ref 77, .int (1 : Int32)]) rfl rfl ?_
          refine cV.mono h (fun s10 h => ?_) (fun _ _ h => h.elim)
          exact bi_Tww h rfl rfl ⟨rfl, rfl, rfl, trivial⟩
theorem go_X12_operand_50 {X : bi_X} {d : Nat} {K : bi_St → Prop} {E : Nat → bi_St → Prop}  {s : bi_St} {y2 : Int32} {y4 : Int32}  (h : cI X d 177 [.ref 77] s (fun (r11 : Int32) (s11 : bi_St) => ((¬ r11 = 0) → cV X d 188 [.ref 77, .int (3 : Int32)] s11 (fun (s12 : bi_St) => cV X d 172 [.ref 77] (st_p s12 77 22 ((st_g s12 77 22) + (1 : Int32))) (fun (s13 : bi_St) => at_X12_operand_18 X (d + 1) K E s13 (y2) ((y4 + (1 : Int32)))) (fun _ _ => False)) (fun _ _ => False)) ∧ (¬ (¬ r11 = 0) → at_X12_operand_18 X (d + 1) K E s11 (y2) ((y4 + (1 : Int32))))) (fun _ _ => False)) : at_X12_operand_50 X (d + 1) K E s y2 y4 := by
  show bi_T _ _ _ _ _
  refine bi_Tr 2 (s' := (54, [(4, .int (y4 + (1 : Int32))), (0, .ref 77), (2, .int y2)], [.ref 77], st_mm s)) rfl ?_
  refine bi_TcI (as := [.ref 77]) rfl rfl ?_
  refine cI.mono h (fun r11 s11 h => ?_) (fun _ _ h => h.elim)
  refine bi_Tr 1 (s' := ((if ¬ r11 = 0 then 63 else 60), [(4, .int (y4 + (1 : Int32))), (0, .ref 77), (2, .int y2)], [], st_mm s11)) rfl (bi_Tif (fun hc => ?_) (fun hc => ?_))
  · have h := h.1 hc
    refine bi_Tr 2 (s' := (65, [(4, .int (y4 + (1 : Int32))), (0, .ref 77), (2, .int y2)], [.int (3 : Int32), .ref 77], st_mm s11)) rfl ?_
    refine bi_TcV (as := [.ref 77, .int (3 : Int32)]) rfl rfl ?_
    refine cV.mono h (fun s12 h => ?_) (fun _ _ h => h.elim)
    refine bi_Tr 7 (s' := (79, [(4, .int (y4 + (1 : Int32))), (0, .ref 77), (2, .int y2)], [.ref 77], st_mm (st_p s12 77 22 ((st_g s12 77 22) + (1 : Int32))))) rfl ?_
    refine bi_TcV (as := [.ref 77]) rfl rfl ?_
    refine cV.mono h (fun s13 h => ?_) (fun _ _ h => h.elim)
    refine bi_Tr 1 (s' := (18, [(4, .int (y4 + (1 : Int32))), (0, .ref 77), (2, .int y2)], [], st_mm s13)) rfl ?_
    exact bi_Tww h rfl rfl ⟨rfl, rfl, rfl, trivial⟩
  · have h := h.2 hc
    refine bi_Tr 1 (s' := (18, [(4, .int (y4 + (1 : Int32))), (0, .ref 77), (2, .int y2)], [], st_mm s11)) rfl ?_
    exact bi_Tww h rfl rfl ⟨rfl, rfl, rfl, trivial⟩
theorem go_X12_operand_105 {X : bi_X} {d : Nat} {K : bi_St → Prop} {E : Nat → bi_St → Prop}  {s : bi_St} {y2 : Int32}  (h : (((0 : Int32) = 0) → at_X12_operand_146 X (d + 1) K E s (y2) ((0 : Int32))) ∧ (¬ ((0 : Int32) = 0) → cV X d 172 [.ref 77] (st_p (st_p s 77 22 ((st_g s 77 22) + (1 : Int32))) 77 23 (0 : Int32)) (fun (s14 : bi_St) => cI X d 178 [.ref 77, .int (40 : Int32)] s14 (fun (r15 : Int32) (s15 : bi_St) => ((¬ r15 = 0) → at_X12_operand_146 X (d + 1) K E s15 (y2) ((0 : Int32))) ∧ (¬ (¬ r15 = 0) → cV X d 176 [.ref 77, .int (1 : Int32)] s15 (fun (s16 : bi_St) => at_X12_operand_146 X (d + 1) K E s16 (y2) ((0 : Int32))) (fun _ _ => False))) (fun _ _ => False)) (fun _ _ => False))) : at_X12_operand_105 X (d + 1) K E s y2 := by
  show bi_T _ _ _ _ _
  refine bi_Tr 4 (s' := ((if (0 : Int32) = 0 then 146 else 113), [(5, .int (0 : Int32)), (0, .ref 77), (2, .int y2)], [], st_mm s)) rfl (bi_Tif (fun hc => ?_) (fun hc => ?_))
  · have h := h.1 hc
    exact bi_Tww h rfl rfl ⟨rfl, rfl, rfl, trivial⟩
  · have h := h.2 hc
    refine bi_Tr 8 (s' := (125, [(5, .int (0 : Int32)), (0, .ref 77), (2, .int y2)], [.int (0 : Int32), .ref 77], st_mm (st_p s 77 22 ((st_g s 77 22) + (1 : Int32))))) rfl ?_
    refine bi_Tpz rfl rfl rfl rfl rfl rfl ?_
    refine bi_Tr 1 (s' := (129, [(5, .int (0 : Int32)), (0, .ref 77), (2, .int y2)], [.ref 77], st_mm (st_p (st_p s 77 22 ((st_g s 77 22) + (1 : Int32))) 77 23 (0 : Int32)))) rfl ?_
    refine bi_TcV (as := [.ref 77]) rfl rfl ?_
    refine cV.mono h (fun s14 h => ?_) (fun _ _ h => h.elim)
    refine bi_Tr 2 (s' := (135, [(5, .int (0 : Int32)), (0, .ref 77), (2, .int y2)], [.int (40 : Int32), .ref 77], st_mm s14)) rfl ?_
    refine bi_TcI (as := [.ref 77, .int (40 : Int32)]) rfl rfl ?_
    refine cI.mono h (fun r15 s15 h => ?_) (fun _ _ h => h.elim)
    refine bi_Tr 1 (s' := ((if ¬ r15 = 0 then 146 else 141), [(5, .int (0 : Int32)), (0, .ref 77), (2, .int y2)], [], st_mm s15)) rfl (bi_Tif (fun hc => ?_) (fun hc => ?_))
    · have h := h.1 hc
      exact bi_Tww h rfl rfl ⟨rfl, rfl, rfl, trivial⟩
    · have h := h.2 hc
      refine bi_Tr 2 (s' := (143, [(5, .int (0 : Int32)), (0, .ref 77), (2, .int y2)], [.int (1 : Int32), .ref 77], st_mm s15)) rfl ?_
      refine bi_TcV (as := [.ref 77, .int (1 : Int32)]) rfl rfl ?_
      refine cV.mono h (fun s16 h => ?_) (fun _ _ h => h.elim)
      exact bi_Tww h rfl rfl ⟨rfl, rfl, rfl, trivial⟩
theorem go_X12_operand_146 {X : bi_X} {d : Nat} {K : bi_St → Prop} {E : Nat → bi_St → Prop}  {s : bi_St} {y2 : Int32} {y5 : Int32}  (h : cI X d 177 [.ref 77] s (fun (r17 : Int32) (s17 : bi_St) => ((r17 = 0) → at_X12_operand_166 X (d + 1) K E s17 (y2) (y5)) ∧ (¬ (r17 = 0) → cI X d 178 [.ref 77, .int (40 : Int32)] s17 (fun (r18 : Int32) (s18 : bi_St) => ((r18 = 0) → at_X12_operand_166 X (d + 1) K E s18 (y2) (y5)) ∧ (¬ (r18 = 0) → (((1 : Int32) = 0) → at_X12_operand_198 X (d + 1) K E s18 (y2) ((1 : Int32))) ∧ (¬ ((1 : Int32) = 0) → ((y5 = 0) → cV X d 188 [.ref 77, .int (14 : Int32)] s18 (fun (s19 : bi_St) => cV X d 172 [.ref 77] s19 (fun (s20 : bi_St) => cV X d 190 [.ref 77] s20 (fun (s21 : bi_St) => at_X12_operand_198 X (d + 1) K E s21 ((1 : Int32)) ((1 : Int32))) (fun _ _ => False)) (fun _ _ => False)) (fun _ _ => False)) ∧ (¬ (y5 = 0) → cV X d 188 [.ref 77, .int (15 : Int32)] s18 (fun (s22 : bi_St) => cV X d 172 [.ref 77] s22 (fun (s23 : bi_St) => cV X d 190 [.ref 77] s23 (fun (s24 : bi_St) => at_X12_operand_198 X (d + 1) K E s24 ((1 : Int32)) ((1 : Int32))) (fun _ _ => False)) (fun _ _ => False)) (fun _ _ => False))))) (fun _ _ => False))) (fun _ _ => False)) : at_X12_operand_146 X (d + 1) K E s y2 y5 := by
  show bi_T _ _ _ _ _
  refine bi_Tr 1 (s' := (147, [(0, .ref 77), (2, .int y2), (5, .int y5)], [.ref 77], st_mm s)) rfl ?_
  refine bi_TcI (as := [.ref 77]) rfl rfl ?_
  refine cI.mono h (fun r17 s17 h => ?_) (fun _ _ h => h.elim)
  refine bi_Tr 1 (s' := ((if r17 = 0 then 166 else 153), [(0, .ref 77), (2, .int y2), (5, .int y5)], [], st_mm s17)) rfl (bi_Tif (fun hc => ?_) (fun hc => ?_))
  · have h := h.1 hc
    exact bi_Tww h rfl rfl ⟨rfl, rfl, rfl, trivial⟩
  · have h := h.2 hc
    refine bi_Tr 2 (s' := (156, [(0, .ref 77), (2, .int y2), (5, .int y5)], [.int (40 : Int32), .ref 77], st_mm s17)) rfl ?_
    refine bi_TcI (as := [.ref 77, .int (40 : Int32)]) rfl rfl ?_
    refine cI.mono h (fun r18 s18 h => ?_) (fun _ _ h => h.elim)
    refine bi_Tr 1 (s' := ((if r18 = 0 then 166 else 162), [(0, .ref 77), (2, .int y2), (5, .int y5)], [], st_mm s18)) rfl (bi_Tif (fun hc => ?_) (fun hc => ?_))
    · have h := h.1 hc
      exact bi_Tww h rfl rfl ⟨rfl, rfl, rfl, trivial⟩
    · have h := h.2 hc
      refine bi_Tr 5 (s' := ((if (1 : Int32) = 0 then 198 else 172), [(3, .int (1 : Int32)), (0, .ref 77), (2, .int y2), (5, .int y5)], [], st_mm s18)) rfl (bi_Tif (fun hc => ?_) (fun hc => ?_))
      · have h := h.1 hc
        exact bi_Tww h rfl rfl ⟨rfl, rfl, rfl, trivial⟩
      · have h := h.2 hc
        refine bi_Tr 3 (s' := ((if y5 = 0 then 183 else 178), [(3, .int (1 : Int32)), (0, .ref 77), (2, .int y2), (5, .int y5)], [.ref 77], st_mm s18)) rfl (bi_Tif (fun hc => ?_) (fun hc => ?_))
        · have h := h.1 hc
          refine bi_Tr 1 (s' := (185, [(3, .int (1 : Int32)), (0, .ref 77), (2, .int y2), (5, .int y5)], [.int (14 : Int32), .ref 77], st_mm s18)) rfl ?_
          refine bi_TcV (as := [.ref 77, .int (14 : Int32)]) rfl rfl ?_
          refine cV.mono h (fun s19 h => ?_) (fun _ _ h => h.elim)
          refine bi_Tr 1 (s' := (189, [(3, .int (1 : Int32)), (0, .ref 77), (2, .int y2), (5, .int y5)], [.ref 77], st_mm s19)) rfl ?_
          refine bi_TcV (as := [.ref 77]) rfl rfl ?_
          refine cV.mono h (fun s20 h => ?_) (fun _ _ h => h.elim)
          refine bi_Tr 1 (s' := (193, [(3, .int (1 : Int32)), (0, .ref 77), (2, .int y2), (5, .int y5)], [.ref 77], st_mm s20)) rfl ?_
          refine bi_TcV (as := [.ref 77]) rfl rfl ?_
          refine cV.mono h (fun s21 h => ?_) (fun _ _ h => h.elim)
          refine bi_Tr 2 (s' := (198, [(2, .int (1 : Int32)), (3, .int (1 : Int32)), (0, .ref 77), (5, .int y5)], [], st_mm s21)) rfl ?_
          exact bi_Tww h rfl rfl ⟨rfl, rfl, rfl, trivial⟩
        · have h := h.2 hc
          refine bi_Tr 2 (s' := (185, [(3, .int (1 : Int32)), (0, .ref 77), (2, .int y2), (5, .int y5)], [.int (15 : Int32), .ref 77], st_mm s18)) rfl ?_
          refine bi_TcV (as := [.ref 77, .int (15 : Int32)]) rfl rfl ?_
          refine cV.mono h (fun s22 h => ?_) (fun _ _ h => h.elim)
          refine bi_Tr 1 (s' := (189, [(3, .int (1 : Int32)), (0, .ref 77), (2, .int y2), (5, .int y5)], [.ref 77], st_mm s22)) rfl ?_
          refine bi_TcV (as := [.ref 77]) rfl rfl ?_
          refine cV.mono h (fun s23 h => ?_) (fun _ _ h => h.elim)
          refine bi_Tr 1 (s' := (193, [(3, .int (1 : Int32)), (0, .ref 77), (2, .int y2), (5, .int y5)], [.ref 77], st_mm s23)) rfl ?_
          refine bi_TcV (as := [.ref 77]) rfl rfl ?_
          refine cV.mono h (fun s24 h => ?_) (fun _ _ h => h.elim)
          refine bi_Tr 2 (s' := (198, [(2, .int (1 : Int32)), (3, .int (1 : Int32)), (0, .ref 77), (5, .int y5)], [], st_mm s24)) rfl ?_
          exact bi_Tww h rfl rfl ⟨rfl, rfl, rfl, trivial⟩
theorem go_X12_operand_166 {X : bi_X} {d : Nat} {K : bi_St → Prop} {E : Nat → bi_St → Prop}  {s : bi_St} {y2 : Int32} {y5 : Int32}  (h : (((0 : Int32) = 0) → at_X12_operand_198 X (d + 1) K E s (y2) ((0 : Int32))) ∧ (¬ ((0 : Int32) = 0) → ((y5 = 0) → cV X d 188 [.ref 77, .int (14 : Int32)] s (fun (s25 : bi_St) => cV X d 172 [.ref 77] s25 (fun (s26 : bi_St) => cV X d 190 [.ref 77] s26 (fun (s27 : bi_St) => at_X12_operand_198 X (d + 1) K E s27 ((1 : Int32)) ((0 : Int32))) (fun _ _ => False)) (fun _ _ => False)) (fun _ _ => False)) ∧ (¬ (y5 = 0) → cV X d 188 [.ref 77, .int (15 : Int32)] s (fun (s28 : bi_St) => cV X d 172 [.ref 77] s28 (fun (s29 : bi_St) => cV X d 190 [.ref 77] s29 (fun (s30 : bi_St) => at_X12_operand_198 X (d + 1) K E s30 ((1 : Int32)) ((0 : Int32))) (fun _ _ => False)) (fun _ _ => False)) (fun _ _ => False)))) : at_X12_operand_166 X (d + 1) K E s y2 y5 := by
  show bi_T _ _ _ _ _
  refine bi_Tr 4 (s' := ((if (0 : Int32) = 0 then 198 else 172), [(3, .int (0 : Int32)), (0, .ref 77), (2, .int y2), (5, .int y5)], [], st_mm s)) rfl (bi_Tif (fun hc => ?_) (fun hc => ?_))
  · have h := h.1 hc
    exact bi_Tww h rfl rfl ⟨rfl, rfl, rfl, trivial⟩
  · have h := h.2 hc
    refine bi_Tr 3 (s' := ((if y5 = 0 then 183 else 178), [(3, .int (0 : Int32)), (0, .ref 77), (2, .int y2), (5, .int y5)], [.ref 77], st_mm s)) rfl (bi_Tif (fun hc => ?_) (fun hc => ?_))
    · have h := h.1 hc
      refine bi_Tr 1 (s' := (185, [(3, .int (0 : Int32)), (0, .ref 77), (2, .int y2), (5, .int y5)], [.int (14 : Int32), .ref 77], st_mm s)) rfl ?_
      refine bi_TcV (as := [.ref 77, .int (14 : Int32)]) rfl rfl ?_
      refine cV.mono h (fun s25 h => ?_) (fun _ _ h => h.elim)
      refine bi_Tr 1 (s' := (189, [(3, .int (0 : Int32)), (0, .ref 77), (2, .int y2), (5, .int y5)], [.ref 77], st_mm s25)) rfl ?_
      refine bi_TcV (as := [.ref 77]) rfl rfl ?_
      refine cV.mono h (fun s26 h => ?_) (fun _ _ h => h.elim)
      refine bi_Tr 1 (s' := (193, [(3, .int (0 : Int32)), (0, .ref 77), (2, .int y2), (5, .int y5)], [.ref 77], st_mm s26)) rfl ?_
      refine bi_TcV (as := [.ref 77]) rfl rfl ?_
      refine cV.mono h (fun s27 h => ?_) (fun _ _ h => h.elim)
      refine bi_Tr 2 (s' := (198, [(2, .int (1 : Int32)), (3, .int (0 : Int32)), (0, .ref 77), (5, .int y5)], [], st_mm s27)) rfl ?_
      exact bi_Tww h rfl rfl ⟨rfl, rfl, rfl, trivial⟩
    · have h := h.2 hc
      refine bi_Tr 2 (s' := (185, [(3, .int (0 : Int32)), (0, .ref 77), (2, .int y2), (5, .int y5)], [.int (15 : Int32), .ref 77], st_mm s)) rfl ?_
      refine bi_TcV (as := [.ref 77, .int (15 : Int32)]) rfl rfl ?_
      refine cV.mono h (fun s28 h => ?_) (fun _ _ h => h.elim)
      refine bi_Tr 1 (s' := (189, [(3, .int (0 : Int32)), (0, .ref 77), (2, .int y2), (5, .int y5)], [.ref 77], st_mm s28)) rfl ?_
      refine bi_TcV (as := [.ref 77]) rfl rfl ?_
      refine cV.mono h (fun s29 h => ?_) (fun _ _ h => h.elim)
      refine bi_Tr 1 (s' := (193, [(3, .int (0 : Int32)), (0, .ref 77), (2, .int y2), (5, .int y5)], [.ref 77], st_mm s29)) rfl ?_
      refine bi_TcV (as := [.ref 77]) rfl rfl ?_
      refine cV.mono h (fun s30 h => ?_) (fun _ _ h => h.elim)
      refine bi_Tr 2 (s' := (198, [(2, .int (1 : Int32)), (3, .int (0 : Int32)), (0, .ref 77), (5, .int y5)], [], st_mm s30)) rfl ?_
      exact bi_Tww h rfl rfl ⟨rfl, rfl, rfl, trivial⟩
theorem go_X12_operand_198 {X : bi_X} {d : Nat} {K : bi_St → Prop} {E : Nat → bi_St → Prop}  {s : bi_St} {y2 : Int32} {y3 : Int32}  (h : at_X12_operand_4 X (d + 1) K E s (y2) (y3)) : at_X12_operand_198 X (d + 1) K E s y2 y3 := by
  show bi_T _ _ _ _ _
  refine bi_Tr 1 (s' := (4, [(0, .ref 77), (2, .int y2), (3, .int y3)], [], st_mm s)) rfl ?_
  exact bi_Tww h rfl rfl ⟨rfl, rfl, rfl, trivial⟩
/-- PolicyRowsModel.operand(Z)V -/
theorem en_X12_operand {X : bi_X} {d : Nat} {K : bi_St → Prop} {E : Nat → bi_St → Prop} {s : bi_St} {x0 : Int32}  (h : at_X12_operand_4 X (d + 1) K E s (x0) ((1 : Int32))) : cV X (d + 1) 191 [.ref 77, .int x0] s K E := by
  show bi_T _ _ _ _ _
  refine bi_Tr 4 (s' := (4, [(3, .int (1 : Int32)), (2, .int x0), (0, .ref 77), (1, .int x0)], [], st_mm s)) rfl ?_
  exact bi_Tww h rfl rfl ⟨rfl, rfl, rfl, trivial⟩
def at_X12_isOpened_7 (X : bi_X) (d : Nat) (K : Int32 → bi_St → Prop) (E : Nat → bi_St → Prop) (s : bi_St) (y1 : Int32) : Prop := bi_T X d 192 (7, [(0, .ref 77), (1, .int y1)], [], st_mm s) (st_RI K E)
theorem go_X12_isOpened_7 {X : bi_X} {d : Nat} {K : Int32 → bi_St → Prop} {E : Nat → bi_St → Prop}  {s : bi_St} {y1 : Int32}  (h : ((y1 < 0) → ((y1 < 0) → K (0 : Int32) s) ∧ (¬ (y1 < 0) → K (1 : Int32) s)) ∧ (¬ (y1 < 0) → bi_in y1 950 = true ∧ (cI X d 185 [.int (st_g s 81 (y1).toNatClampNeg)] s (fun (r1 : Int32) (s1 : bi_St) => ((¬ r1 = 0) → ((y1 < 0) → K (0 : Int32) s1) ∧ (¬ (y1 < 0) → K (1 : Int32) s1)) ∧ (¬ (¬ r1 = 0) → at_X12_isOpened_7 X (d + 1) K E s1 ((y1 + (-1 : Int32))))) (fun _ _ => False)))) : at_X12_isOpened_7 X (d + 1) K E s y1 := by
  show bi_T _ _ _ _ _
  refine bi_Tr 2 (s' := ((if y1 < 0 then 29 else 11), [(0, .ref 77), (1, .int y1)], [], st_mm s)) rfl (bi_Tif (fun hc => ?_) (fun hc => ?_))
  · have h := h.1 hc
    refine bi_Tr 2 (s' := ((if y1 < 0 then 37 else 33), [(0, .ref 77), (1, .int y1)], [], st_mm s)) rfl (bi_Tif (fun hc => ?_) (fun hc => ?_))
    · have h := h.1 hc
      refine bi_Tr 1 (s' := (38, [(0, .ref 77), (1, .int y1)], [.int (0 : Int32)], st_mm s)) rfl ?_
      exact bi_Tv rfl rfl (Or.inl ⟨_, _, rfl, h⟩)
    · have h := h.2 hc
      refine bi_Tr 2 (s' := (38, [(0, .ref 77), (1, .int y1)], [.int (1 : Int32)], st_mm s)) rfl ?_
      exact bi_Tv rfl rfl (Or.inl ⟨_, _, rfl, h⟩)
  · have h := h.2 hc
    refine bi_Tr 3 (s' := (16, [(0, .ref 77), (1, .int y1)], [.int y1, .ref 81], st_mm s)) rfl ?_
    obtain ⟨hi, h⟩ := h
    refine bi_Tial rfl rfl rfl hi ?_
    refine bi_TcI (as := [.int (st_g s 81 (y1).toNatClampNeg)]) rfl rfl ?_
    refine cI.mono h (fun r1 s1 h => ?_) (fun _ _ h => h.elim)
    refine bi_Tr 1 (s' := ((if ¬ r1 = 0 then 29 else 23), [(0, .ref 77), (1, .int y1)], [], st_mm s1)) rfl (bi_Tif (fun hc => ?_) (fun hc => ?_))
    · have h := h.1 hc
      refine bi_Tr 2 (s' := ((if y1 < 0 then 37 else 33), [(0, .ref 77), (1, .int y1)], [], st_mm s1)) rfl (bi_Tif (fun hc => ?_) (fun hc => ?_))
      · have h := h.1 hc
        refine bi_Tr 1 (s' := (38, [(0, .ref 77), (1, .int y1)], [.int (0 : Int32)], st_mm s1)) rfl ?_
        exact bi_Tv rfl rfl (Or.inl ⟨_, _, rfl, h⟩)
      · have h := h.2 hc
        refine bi_Tr 2 (s' := (38, [(0, .ref 77), (1, .int y1)], [.int (1 : Int32)], st_mm s1)) rfl ?_
        exact bi_Tv rfl rfl (Or.inl ⟨_, _, rfl, h⟩)
    · have h := h.2 hc
      refine bi_Tr 2 (s' := (7, [(1, .int (y1 + (-1 : Int32))), (0, .ref 77)], [], st_mm s1)) rfl ?_
      exact bi_Tww h rfl rfl ⟨rfl, rfl, trivial⟩
/-- PolicyRowsModel.isOpened()Z -/
theorem en_X12_isOpened {X : bi_X} {d : Nat} {K : Int32 → bi_St → Prop} {E : Nat → bi_St → Prop} {s : bi_St}   (h : at_X12_isOpened_7 X (d + 1) K E s (((st_g s 77 20) - (1 : Int32)))) : cI X (d + 1) 192 [.ref 77] s K E := by
  show bi_T _ _ _ _ _
  refine bi_Tr 5 (s' := (7, [(1, .int ((st_g s 77 20) - (1 : Int32))), (0, .ref 77)], [], st_mm s)) rfl ?_
  exact bi_Tww h rfl rfl ⟨rfl, rfl, trivial⟩
/-- PolicyRowsModel.closes()V -/
theorem en_X12_closes {X : bi_X} {d : Nat} {K : bi_St → Prop} {E : Nat → bi_St → Prop} {s : bi_St}   (h : cV X d 187 [.ref 77, .int (0 : Int32)] s (fun (s1 : bi_St) => bi_in (st_g (st_p s1 77 20 ((st_g s1 77 20) - (1 : Int32))) 77 20) 950 = true ∧ (((¬ (st_g (st_p s1 77 20 ((st_g s1 77 20) - (1 : Int32))) 81 ((st_g (st_p s1 77 20 ((st_g s1 77 20) - (1 : Int32))) 77 20)).toNatClampNeg) = (15 : Int32)) → cV X d 172 [.ref 77] (st_p (st_p s1 77 20 ((st_g s1 77 20) - (1 : Int32))) 77 21 ((st_g (st_p s1 77 20 ((st_g s1 77 20) - (1 : Int32))) 77 21) - (1 : Int32))) (fun (s2 : bi_St) => K s2) (fun _ _ => False)) ∧ (¬ (¬ (st_g (st_p s1 77 20 ((st_g s1 77 20) - (1 : Int32))) 81 ((st_g (st_p s1 77 20 ((st_g s1 77 20) - (1 : Int32))) 77 20)).toNatClampNeg) = (15 : Int32)) → cV X d 184 [.ref 77, .int (13 : Int32)] (st_p s1 77 20 ((st_g s1 77 20) - (1 : Int32))) (fun (s3 : bi_St) => cV X d 172 [.ref 77] (st_p s3 77 21 ((st_g s3 77 21) - (1 : Int32))) (fun (s4 : bi_St) => K s4) (fun _ _ => False)) (fun _ _ => False)))) (fun _ _ => False)) : cV X (d + 1) 193 [.ref 77] s K E := by
  show bi_T _ _ _ _ _
  refine bi_Tr 2 (s' := (2, [(0, .ref 77)], [.int (0 : Int32), .ref 77], st_mm s)) rfl ?_
  refine bi_TcV (as := [.ref 77, .int (0 : Int32)]) rfl rfl ?_
  refine cV.mono h (fun s1 h => ?_) (fun _ _ h => h.elim)
  refine bi_Tr 10 (s' := (23, [(0, .ref 77)], [.int (st_g (st_p s1 77 20 ((st_g s1 77 20) - (1 : Int32))) 77 20), .ref 81], st_mm (st_p s1 77 20 ((st_g s1 77 20) - (1 : Int32))))) rfl ?_
  obtain ⟨hi, h⟩ := h
  refine bi_Tial rfl rfl rfl hi ?_
  refine bi_Tr 2 (s' := ((if ¬ (st_g (st_p s1 77 20 ((st_g s1 77 20) - (1 : Int32))) 81 ((st_g (st_p s1 77 20 ((st_g s1 77 20) - (1 : Int32))) 77 20)).toNatClampNeg) = (15 : Int32) then 35 else 29), [(0, .ref 77)], [], st_mm (st_p s1 77 20 ((st_g s1 77 20) - (1 : Int32))))) rfl (bi_Tif (fun hc => ?_) (fun hc => ?_))
  · have h := h.1 hc
    refine bi_Tr 7 (s' := (46, [(0, .ref 77)], [.ref 77], st_mm (st_p (st_p s1 77 20 ((st_g s1 77 20) - (1 : Int32))) 77 21 ((st_g (st_p s1 77 20 ((st_g s1 77 20) - (1 : Int32))) 77 21) - (1 : Int32))))) rfl ?_
    refine bi_TcV (as := [.ref 77]) rfl rfl ?_
    refine cV.mono h (fun s2 h => ?_) (fun _ _ h => h.elim)
    exact bi_Tv rfl rfl (Or.inl ⟨_, rfl, h⟩)
  · have h := h.2 hc
    refine bi_Tr 2 (s' := (32, [(0, .ref 77)], [.int (13 : Int32), .ref 77], st_mm (st_p s1 77 20 ((st_g s1 77 20) - (1 : Int32))))) rfl ?_
    refine bi_TcV (as := [.ref 77, .int (13 : Int32)]) rfl rfl ?_
    refine cV.mono h (fun s3 h => ?_) (fun _ _ h => h.elim)
    refine bi_Tr 7 (s' := (46, [(0, .ref 77)], [.ref 77], st_mm (st_p s3 77 21 ((st_g s3 77 21) - (1 : Int32))))) rfl ?_
    refine bi_TcV (as := [.ref 77]) rfl rfl ?_
    refine cV.mono h (fun s4 h => ?_) (fun _ _ h => h.elim)
    exact bi_Tv rfl rfl (Or.inl ⟨_, rfl, h⟩)
def at_X12_expression_39 (X : bi_X) (d : Nat) (K : bi_St → Prop) (E : Nat → bi_St → Prop) (s : bi_St) (y1 : Int32) : Prop := bi_T X d 194 (39, [(0, .ref 77), (1, .int y1)], [], st_mm s) (st_RV K E)
def at_X12_expression_401 (X : bi_X) (d : Nat) (K : bi_St → Prop) (E : Nat → bi_St → Prop) (s : bi_St)  : Prop := bi_T X d 194 (401, [(0, .ref 77)], [], st_mm s) (st_RV K E)
def at_X12_expression_67 (X : bi_X) (d : Nat) (K : bi_St → Prop) (E : Nat → bi_St → Prop) (s : bi_St) (y1 : Int32) (y2 : Int32) : Prop := bi_T X d 194 (67, [(0, .ref 77), (1, .int y1), (2, .int y2)], [], st_mm s) (st_RV K E)
def at_X12_expression_147 (X : bi_X) (d : Nat) (K : bi_St → Prop) (E : Nat → bi_St → Prop) (s : bi_St) (y1 : Int32) : Prop := bi_T X d 194 (147, [(0, .ref 77), (1, .int y1)], [], st_mm s) (st_RV K E)
def at_X12_expression_216 (X : bi_X) (d : Nat) (K : bi_St → Prop) (E : Nat → bi_St → Prop) (s : bi_St) (y1 : Int32) : Prop := bi_T X d 194 (216, [(0, .ref 77), (1, .int y1)], [], st_mm s) (st_RV K E)
def at_X12_expression_421 (X : bi_X) (d : Nat) (K : bi_St → Prop) (E : Nat → bi_St → Prop) (s : bi_St)  : Prop := bi_T X d 194 (421, [(0, .ref 77)], [], st_mm s) (st_RV K E)
def at_X12_expression_398 (X : bi_X) (d : Nat) (K : bi_St → Prop) (E : Nat → bi_St → Prop) (s : bi_St) (y1 : Int32) : Prop := bi_T X d 194 (398, [(0, .ref 77), (1, .int y1)], [], st_mm s) (st_RV K E)
def at_X12_expression_234 (X : bi_X) (d : Nat) (K : bi_St → Prop) (E : Nat → bi_St → Prop) (s : bi_St) (y1 : Int32) : Prop := bi_T X d 194 (234, [(0, .ref 77), (1, .int y1)], [], st_mm s) (st_RV K E)
def at_X12_expression_299 (X : bi_X) (d : Nat) (K : bi_St → Prop) (E : Nat → bi_St → Prop) (s : bi_St) (y1 : Int32) : Prop := bi_T X d 194 (299, [(0, .ref 77), (1, .int y1)], [], st_mm s) (st_RV K E)
def at_X12_expression_396 (X : bi_X) (d : Nat) (K : bi_St → Prop) (E : Nat → bi_St → Prop) (s : bi_St)  : Prop := bi_T X d 194 (396, [(0, .ref 77)], [], st_mm s) (st_RV K E)
def at_X12_expression_365 (X : bi_X) (d : Nat) (K : bi_St → Prop) (E : Nat → bi_St → Prop) (s : bi_St) (y1 : Int32) : Prop := bi_T X d 194 (365, [(0, .ref 77), (1, .int y1)], [], st_mm s) (st_RV K E)
def at_X12_expression_360 (X : bi_X) (d : Nat) (K : bi_St → Prop) (E : Nat → bi_St → Prop) (s : bi_St) (y1 : Int32) : Prop := bi_T X d 194 (360, [(0, .ref 77), (1, .int y1)], [], st_mm s) (st_RV K E)
theorem go_X12_expression_39 {X : bi_X} {d : Nat} {K : bi_St → Prop} {E : Nat → bi_St → Prop}  {s : bi_St} {y1 : Int32}  (h : ((y1 = 0) → at_X12_expression_401 X (d + 1) K E s) ∧ (¬ (y1 = 0) → cI X d 177 [.ref 77] s (fun (r4 : Int32) (s4 : bi_St) => ((r4 = 0) → at_X12_expression_401 X (d + 1) K E s4) ∧ (¬ (r4 = 0) → cI X d 175 [.ref 77] s4 (fun (r5 : Int32) (s5 : bi_St) => ((r5 = (22 : Int32)) → at_X12_expression_67 X (d + 1) K E s5 (y1) (r5)) ∧ (¬ (r5 = (22 : Int32)) → ((¬ r5 = (23 : Int32)) → cI X d 178 [.ref 77, .int (60 : Int32)] s5 (fun (r6 : Int32) (s6 : bi_St) => ((¬ r6 = 0) → at_X12_expression_147 X (d + 1) K E s6 (y1)) ∧ (¬ (¬ r6 = 0) → cI X d 178 [.ref 77, .int (61 : Int32)] s6 (fun (r7 : Int32) (s7 : bi_St) => ((r7 = 0) → at_X12_expression_216 X (d + 1) K E s7 (y1)) ∧ (¬ (r7 = 0) → at_X12_expression_147 X (d + 1) K E s7 (y1))) (fun _ _ => False))) (fun _ _ => False)) ∧ (¬ (¬ r5 = (23 : Int32)) → at_X12_expression_67 X (d + 1) K E s5 (y1) (r5)))) (fun _ _ => False))) (fun _ _ => False))) : at_X12_expression_39 X (d + 1) K E s y1 := by
  show bi_T _ _ _ _ _
  refine bi_Tr 2 (s' := ((if y1 = 0 then 401 else 43), [(0, .ref 77), (1, .int y1)], [], st_mm s)) rfl (bi_Tif (fun hc => ?_) (fun hc => ?_))
  · have h := h.1 hc
    exact bi_Tww h rfl rfl ⟨rfl, trivial⟩
  · have h := h.2 hc
    refine bi_Tr 1 (s' := (44, [(0, .ref 77), (1, .int y1)], [.ref 77], st_mm s)) rfl ?_
    refine bi_TcI (as := [.ref 77]) rfl rfl ?_
    refine cI.mono h (fun r4 s4 h => ?_) (fun _ _ h => h.elim)
    refine bi_Tr 1 (s' := ((if r4 = 0 then 401 else 50), [(0, .ref 77), (1, .int y1)], [], st_mm s4)) rfl (bi_Tif (fun hc => ?_) (fun hc => ?_))
    · have h := h.1 hc
      exact bi_Tww h rfl rfl ⟨rfl, trivial⟩
    · have h := h.2 hc
      refine bi_Tr 1 (s' := (51, [(0, .ref 77), (1, .int y1)], [.ref 77], st_mm s4)) rfl ?_
      refine bi_TcI (as := [.ref 77]) rfl rfl ?_
      refine cI.mono h (fun r5 s5 h => ?_) (fun _ _ h => h.elim)
      refine bi_Tr 4 (s' := ((if r5 = (22 : Int32) then 67 else 61), [(2, .int r5), (0, .ref 77), (1, .int y1)], [], st_mm s5)) rfl (bi_Tif (fun hc => ?_) (fun hc => ?_))
      · have h := h.1 hc
        exact bi_Tww h rfl rfl ⟨rfl, rfl, rfl, trivial⟩
      · have h := h.2 hc
        refine bi_Tr 3 (s' := ((if ¬ r5 = (23 : Int32) then 129 else 67), [(2, .int r5), (0, .ref 77), (1, .int y1)], [], st_mm s5)) rfl (bi_Tif (fun hc => ?_) (fun hc => ?_))
        · have h := h.1 hc
          refine bi_Tr 2 (s' := (132, [(2, .int r5), (0, .ref 77), (1, .int y1)], [.int (60 : Int32), .ref 77], st_mm s5)) rfl ?_
          refine bi_TcI (as := [.ref 77, .int (60 : Int32)]) rfl rfl ?_
          refine cI.mono h (fun r6 s6 h => ?_) (fun _ _ h => h.elim)
          refine bi_Tr 1 (s' := ((if ¬ r6 = 0 then 147 else 138), [(2, .int r5), (0, .ref 77), (1, .int y1)], [], st_mm s6)) rfl (bi_Tif (fun hc => ?_) (fun hc => ?_))
          · have h := h.1 hc
            exact bi_Tww h rfl rfl ⟨rfl, rfl, trivial⟩
          · have h := h.2 hc
            refine bi_Tr 2 (s' := (141, [(2, .int r5), (0, .ref 77), (1, .int y1)], [.int (61 : Int32), .ref 77], st_mm s6)) rfl ?_
            refine bi_TcI (as := [.ref 77, .int (61 : Int32)]) rfl rfl ?_
            refine cI.mono h (fun r7 s7 h => ?_) (fun _ _ h => h.elim)
            refine bi_Tr 1 (s' := ((if r7 = 0 then 216 else 147), [(2, .int r5), (0, .ref 77), (1, .int y1)], [], st_mm s7)) rfl (bi_Tif (fun hc => ?_) (fun hc => ?_))
            · have h := h.1 hc
              exact bi_Tww h rfl rfl ⟨rfl, rfl, trivial⟩
            · have h := h.2 hc
              exact bi_Tww h rfl rfl ⟨rfl, rfl, trivial⟩
        · have h := h.2 hc
          exact bi_Tww h rfl rfl ⟨rfl, rfl, rfl, trivial⟩
theorem go_X12_expression_401 {X : bi_X} {d : Nat} {K : bi_St → Prop} {E : Nat → bi_St → Prop}  {s : bi_St}   (h : cI X d 177 [.ref 77] s (fun (r8 : Int32) (s8 : bi_St) => ((r8 = 0) → at_X12_expression_421 X (d + 1) K E s8) ∧ (¬ (r8 = 0) → (((st_g s8 77 21) ≤ (1 : Int32)) → at_X12_expression_421 X (d + 1) K E s8) ∧ (¬ ((st_g s8 77 21) ≤ (1 : Int32)) → cV X d 176 [.ref 77, .int (1 : Int32)] s8 (fun (s9 : bi_St) => at_X12_expression_421 X (d + 1) K E s9) (fun _ _ => False)))) (fun _ _ => False)) : at_X12_expression_401 X (d + 1) K E s  := by
  show bi_T _ _ _ _ _
  refine bi_Tr 1 (s' := (402, [(0, .ref 77)], [.ref 77], st_mm s)) rfl ?_
  refine bi_TcI (as := [.ref 77]) rfl rfl ?_
  refine cI.mono h (fun r8 s8 h => ?_) (fun _ _ h => h.elim)
  refine bi_Tr 1 (s' := ((if r8 = 0 then 421 else 408), [(0, .ref 77)], [], st_mm s8)) rfl (bi_Tif (fun hc => ?_) (fun hc => ?_))
  · have h := h.1 hc
    exact bi_Tww h rfl rfl ⟨rfl, trivial⟩
  · have h := h.2 hc
    refine bi_Tr 4 (s' := ((if (st_g s8 77 21) ≤ (1 : Int32) then 421 else 416), [(0, .ref 77)], [], st_mm s8)) rfl (bi_Tif (fun hc => ?_) (fun hc => ?_))
    · have h := h.1 hc
      exact bi_Tww h rfl rfl ⟨rfl, trivial⟩
    · have h := h.2 hc
      refine bi_Tr 2 (s' := (418, [(0, .ref 77)], [.int (1 : Int32), .ref 77], st_mm s8)) rfl ?_
      refine bi_TcV (as := [.ref 77, .int (1 : Int32)]) rfl rfl ?_
      refine cV.mono h (fun s9 h => ?_) (fun _ _ h => h.elim)
      exact bi_Tww h rfl rfl ⟨rfl, trivial⟩
theorem go_X12_expression_67 {X : bi_X} {d : Nat} {K : bi_St → Prop} {E : Nat → bi_St → Prop}  {s : bi_St} {y1 : Int32} {y2 : Int32}  (h : ((¬ y2 = (22 : Int32)) → cV X d 187 [.ref 77, .int (1 : Int32)] s (fun (s10 : bi_St) => ((¬ y2 = (22 : Int32)) → cV X d 188 [.ref 77, .int (5 : Int32)] s10 (fun (s11 : bi_St) => bi_in (st_g s11 77 21) 9 = true ∧ (cV X d 172 [.ref 77] (st_p (st_p s11 82 ((st_g s11 77 21)).toNatClampNeg (bi_nar 15 (0 : Int32))) 77 22 ((st_g (st_p s11 82 ((st_g s11 77 21)).toNatClampNeg (bi_nar 15 (0 : Int32))) 77 22) + (1 : Int32))) (fun (s12 : bi_St) => cV X d 191 [.ref 77, .int (1 : Int32)] s12 (fun (s13 : bi_St) => at_X12_expression_398 X (d + 1) K E s13 (y1)) (fun _ _ => False)) (fun _ _ => False))) (fun _ _ => False)) ∧ (¬ (¬ y2 = (22 : Int32)) → cV X d 188 [.ref 77, .int (4 : Int32)] s10 (fun (s14 : bi_St) => bi_in (st_g s14 77 21) 9 = true ∧ (cV X d 172 [.ref 77] (st_p (st_p s14 82 ((st_g s14 77 21)).toNatClampNeg (bi_nar 15 (0 : Int32))) 77 22 ((st_g (st_p s14 82 ((st_g s14 77 21)).toNatClampNeg (bi_nar 15 (0 : Int32))) 77 22) + (1 : Int32))) (fun (s15 : bi_St) => cV X d 191 [.ref 77, .int (1 : Int32)] s15 (fun (s16 : bi_St) => at_X12_expression_398 X (d + 1) K E s16 (y1)) (fun _ _ => False)) (fun _ _ => False))) (fun _ _ => False))) (fun _ _ => False)) ∧ (¬ (¬ y2 = (22 : Int32)) → cV X d 187 [.ref 77, .int (2 : Int32)] s (fun (s17 : bi_St) => ((¬ y2 = (22 : Int32)) → cV X d 188 [.ref 77, .int (5 : Int32)] s17 (fun (s18 : bi_St) => bi_in (st_g s18 77 21) 9 = true ∧ (cV X d 172 [.ref 77] (st_p (st_p s18 82 ((st_g s18 77 21)).toNatClampNeg (bi_nar 15 (0 : Int32))) 77 22 ((st_g (st_p s18 82 ((st_g s18 77 21)).toNatClampNeg (bi_nar 15 (0 : Int32))) 77 22) + (1 : Int32))) (fun (s19 : bi_St) => cV X d 191 [.ref 77, .int (1 : Int32)] s19 (fun (s20 : bi_St) => at_X12_expression_398 X (d + 1) K E s20 (y1)) (fun _ _ => False)) (fun _ _ => False))) (fun _ _ => False)) ∧ (¬ (¬ y2 = (22 : Int32)) → cV X d 188 [.ref 77, .int (4 : Int32)] s17 (fun (s21 : bi_St) => bi_in (st_g s21 77 21) 9 = true ∧ (cV X d 172 [.ref 77] (st_p (st_p s21 82 ((st_g s21 77 21)).toNatClampNeg (bi_nar 15 (0 : Int32))) 77 22 ((st_g (st_p s21 82 ((st_g s21 77 21)).toNatClampNeg (bi_nar 15 (0 : Int32))) 77 22) + (1 : Int32))) (fun (s22 : bi_St) => cV X d 191 [.ref 77, .int (1 : Int32)] s22 (fun (s23 : bi_St) => at_X12_expression_398 X (d + 1) K E s23 (y1)) (fun _ _ => False)) (fun _ _ => False))) (fun _ _ => False))) (fun _ _ => False))) : at_X12_expression_67 X (d + 1) K E s y1 y2 := by
  show bi_T _ _ _ _ _
  refine bi_Tr 4 (s' := ((if ¬ y2 = (22 : Int32) then 78 else 74), [(0, .ref 77), (1, .int y1), (2, .int y2)], [.ref 77], st_mm s)) rfl (bi_Tif (fun hc => ?_) (fun hc => ?_))
  · have h := h.1 hc
    refine bi_Tr 1 (s' := (79, [(0, .ref 77), (1, .int y1), (2, .int y2)], [.int (1 : Int32), .ref 77], st_mm s)) rfl ?_
    refine bi_TcV (as := [.ref 77, .int (1 : Int32)]) rfl rfl ?_
    refine cV.mono h (fun s10 h => ?_) (fun _ _ h => h.elim)
    refine bi_Tr 4 (s' := ((if ¬ y2 = (22 : Int32) then 93 else 89), [(0, .ref 77), (1, .int y1), (2, .int y2)], [.ref 77], st_mm s10)) rfl (bi_Tif (fun hc => ?_) (fun hc => ?_))
    · have h := h.1 hc
      refine bi_Tr 1 (s' := (94, [(0, .ref 77), (1, .int y1), (2, .int y2)], [.int (5 : Int32), .ref 77], st_mm s10)) rfl ?_
      refine bi_TcV (as := [.ref 77, .int (5 : Int32)]) rfl rfl ?_
      refine cV.mono h (fun s11 h => ?_) (fun _ _ h => h.elim)
      refine bi_Tr 5 (s' := (106, [(0, .ref 77), (1, .int y1), (2, .int y2)], [.int (0 : Int32), .int (st_g s11 77 21), .ref 82], st_mm s11)) rfl ?_
      obtain ⟨hi, h⟩ := h
      refine bi_Tbas rfl rfl rfl hi ?_
      refine bi_Tr 7 (s' := (118, [(0, .ref 77), (1, .int y1), (2, .int y2)], [.ref 77], st_mm (st_p (st_p s11 82 ((st_g s11 77 21)).toNatClampNeg (bi_nar 15 (0 : Int32))) 77 22 ((st_g (st_p s11 82 ((st_g s11 77 21)).toNatClampNeg (bi_nar 15 (0 : Int32))) 77 22) + (1 : Int32))))) rfl ?_
      refine bi_TcV (as := [.ref 77]) rfl rfl ?_
      refine cV.mono h (fun s12 h => ?_) (fun _ _ h => h.elim)
      refine bi_Tr 2 (s' := (123, [(0, .ref 77), (1, .int y1), (2, .int y2)], [.int (1 : Int32), .ref 77], st_mm s12)) rfl ?_
      refine bi_TcV (as := [.ref 77, .int (1 : Int32)]) rfl rfl ?_
      refine cV.mono h (fun s13 h => ?_) (fun _ _ h => h.elim)
      refine bi_Tr 1 (s' := (398, [(0, .ref 77), (1, .int y1), (2, .int y2)], [], st_mm s13)) rfl ?_
      exact bi_Tww h rfl rfl ⟨rfl, rfl, trivial⟩
    · have h := h.2 hc
      refine bi_Tr 2 (s' := (94, [(0, .ref 77), (1, .int y1), (2, .int y2)], [.int (4 : Int32), .ref 77], st_mm s10)) rfl ?_
      refine bi_TcV (as := [.ref 77, .int (4 : Int32)]) rfl rfl ?_
      refine cV.mono h (fun s14 h => ?_) (fun _ _ h => h.elim)
      refine bi_Tr 5 (s' := (106, [(0, .ref 77), (1, .int y1), (2, .int y2)], [.int (0 : Int32), .int (st_g s14 77 21), .ref 82], st_mm s14)) rfl ?_
      obtain ⟨hi, h⟩ := h
      refine bi_Tbas rfl rfl rfl hi ?_
      refine bi_Tr 7 (s' := (118, [(0, .ref 77), (1, .int y1), (2, .int y2)], [.ref 77], st_mm (st_p (st_p s14 82 ((st_g s14 77 21)).toNatClampNeg (bi_nar 15 (0 : Int32))) 77 22 ((st_g (st_p s14 82 ((st_g s14 77 21)).toNatClampNeg (bi_nar 15 (0 : Int32))) 77 22) + (1 : Int32))))) rfl ?_
      refine bi_TcV (as := [.ref 77]) rfl rfl ?_
      refine cV.mono h (fun s15 h => ?_) (fun _ _ h => h.elim)
      refine bi_Tr 2 (s' := (123, [(0, .ref 77), (1, .int y1), (2, .int y2)], [.int (1 : Int32), .ref 77], st_mm s15)) rfl ?_
      refine bi_TcV (as := [.ref 77, .int (1 : Int32)]) rfl rfl ?_
      refine cV.mono h (fun s16 h => ?_) (fun _ _ h => h.elim)
      refine bi_Tr 1 (s' := (398, [(0, .ref 77), (1, .int y1), (2, .int y2)], [], st_mm s16)) rfl ?_
      exact bi_Tww h rfl rfl ⟨rfl, rfl, trivial⟩
  · have h := h.2 hc
    refine bi_Tr 2 (s' := (79, [(0, .ref 77), (1, .int y1), (2, .int y2)], [.int (2 : Int32), .ref 77], st_mm s)) rfl ?_
    refine bi_TcV (as := [.ref 77, .int (2 : Int32)]) rfl rfl ?_
    refine cV.mono h (fun s17 h => ?_) (fun _ _ h => h.elim)
    refine bi_Tr 4 (s' := ((if ¬ y2 = (22 : Int32) then 93 else 89), [(0, .ref 77), (1, .int y1), (2, .int y2)], [.ref 77], st_mm s17)) rfl (bi_Tif (fun hc => ?_) (fun hc => ?_))
    · have h := h.1 hc
      refine bi_Tr 1 (s' := (94, [(0, .ref 77), (1, .int y1), (2, .int y2)], [.int (5 : Int32), .ref 77], st_mm s17)) rfl ?_
      refine bi_TcV (as := [.ref 77, .int (5 : Int32)]) rfl rfl ?_
      refine cV.mono h (fun s18 h => ?_) (fun _ _ h => h.elim)
      refine bi_Tr 5 (s' := (106, [(0, .ref 77), (1, .int y1), (2, .int y2)], [.int (0 : Int32), .int (st_g s18 77 21), .ref 82], st_mm s18)) rfl ?_
      obtain ⟨hi, h⟩ := h
      refine bi_Tbas rfl rfl rfl hi ?_
      refine bi_Tr 7 (s' := (118, [(0, .ref 77), (1, .int y1), (2, .int y2)], [.ref 77], st_mm (st_p (st_p s18 82 ((st_g s18 77 21)).toNatClampNeg (bi_nar 15 (0 : Int32))) 77 22 ((st_g (st_p s18 82 ((st_g s18 77 21)).toNatClampNeg (bi_nar 15 (0 : Int32))) 77 22) + (1 : Int32))))) rfl ?_
      refine bi_TcV (as := [.ref 77]) rfl rfl ?_
      refine cV.mono h (fun s19 h => ?_) (fun _ _ h => h.elim)
      refine bi_Tr 2 (s' := (123, [(0, .ref 77), (1, .int y1), (2, .int y2)], [.int (1 : Int32), .ref 77], st_mm s19)) rfl ?_
      refine bi_TcV (as := [.ref 77, .int (1 : Int32)]) rfl rfl ?_
      refine cV.mono h (fun s20 h => ?_) (fun _ _ h => h.elim)
      refine bi_Tr 1 (s' := (398, [(0, .ref 77), (1, .int y1), (2, .int y2)], [], st_mm s20)) rfl ?_
      exact bi_Tww h rfl rfl ⟨rfl, rfl, trivial⟩
    · have h := h.2 hc
      refine bi_Tr 2 (s' := (94, [(0, .ref 77), (1, .int y1), (2, .int y2)], [.int (4 : Int32), .ref 77], st_mm s17)) rfl ?_
      refine bi_TcV (as := [.ref 77, .int (4 : Int32)]) rfl rfl ?_
      refine cV.mono h (fun s21 h => ?_) (fun _ _ h => h.elim)
      refine bi_Tr 5 (s' := (106, [(0, .ref 77), (1, .int y1), (2, .int y2)], [.int (0 : Int32), .int (st_g s21 77 21), .ref 82], st_mm s21)) rfl ?_
      obtain ⟨hi, h⟩ := h
      refine bi_Tbas rfl rfl rfl hi ?_
      refine bi_Tr 7 (s' := (118, [(0, .ref 77), (1, .int y1), (2, .int y2)], [.ref 77], st_mm (st_p (st_p s21 82 ((st_g s21 77 21)).toNatClampNeg (bi_nar 15 (0 : Int32))) 77 22 ((st_g (st_p s21 82 ((st_g s21 77 21)).toNatClampNeg (bi_nar 15 (0 : Int32))) 77 22) + (1 : Int32))))) rfl ?_
      refine bi_TcV (as := [.ref 77]) rfl rfl ?_
      refine cV.mono h (fun s22 h => ?_) (fun _ _ h => h.elim)
      refine bi_Tr 2 (s' := (123, [(0, .ref 77), (1, .int y1), (2, .int y2)], [.int (1 : Int32), .ref 77], st_mm s22)) rfl ?_
      refine bi_TcV (as := [.ref 77, .int (1 : Int32)]) rfl rfl ?_
      refine cV.mono h (fun s23 h => ?_) (fun _ _ h => h.elim)
      refine bi_Tr 1 (s' := (398, [(0, .ref 77), (1, .int y1), (2, .int y2)], [], st_mm s23)) rfl ?_
      exact bi_Tww h rfl rfl ⟨rfl, rfl, trivial⟩
theorem go_X12_expression_147 {X : bi_X} {d : Nat} {K : bi_St → Prop} {E : Nat → bi_St → Prop}  {s : bi_St} {y1 : Int32}  (h : bi_in (st_g s 77 21) 9 = true ∧ (((¬ (st_g s 82 ((st_g s 77 21)).toNatClampNeg) = 0) → at_X12_expression_216 X (d + 1) K E s (y1)) ∧ (¬ (¬ (st_g s 82 ((st_g s 77 21)).toNatClampNeg) = 0) → cV X d 187 [.ref 77, .int (4 : Int32)] s (fun (s24 : bi_St) => cI X d 178 [.ref 77, .int (60 : Int32)] s24 (fun (r25 : Int32) (s25 : bi_St) => ((r25 = 0) → cV X d 188 [.ref 77, .int (7 : Int32)] s25 (fun (s26 : bi_St) => bi_in (st_g s26 77 21) 9 = true ∧ (cV X d 172 [.ref 77] (st_p (st_p s26 82 ((st_g s26 77 21)).toNatClampNeg (bi_nar 15 (1 : Int32))) 77 22 ((st_g (st_p s26 82 ((st_g s26 77 21)).toNatClampNeg (bi_nar 15 (1 : Int32))) 77 22) + (1 : Int32))) (fun (s27 : bi_St) => cV X d 191 [.ref 77, .int (0 : Int32)] s27 (fun (s28 : bi_St) => at_X12_expression_398 X (d + 1) K E s28 (y1)) (fun _ _ => False)) (fun _ _ => False))) (fun _ _ => False)) ∧ (¬ (r25 = 0) → cV X d 188 [.ref 77, .int (6 : Int32)] s25 (fun (s29 : bi_St) => bi_in (st_g s29 77 21) 9 = true ∧ (cV X d 172 [.ref 77] (st_p (st_p s29 82 ((st_g s29 77 21)).toNatClampNeg (bi_nar 15 (1 : Int32))) 77 22 ((st_g (st_p s29 82 ((st_g s29 77 21)).toNatClampNeg (bi_nar 15 (1 : Int32))) 77 22) + (1 : Int32))) (fun (s30 : bi_St) => cV X d 191 [.ref 77, .int (0 : Int32)] s30 (fun (s31 : bi_St) => at_X12_expression_398 X (d + 1) K E s31 (y1)) (fun _ _ => False)) (fun _ _ => False))) (fun _ _ => False))) (fun _ _ => False)) (fun _ _ => False)))) : at_X12_expression_147 X (d + 1) K E s y1 := by
  show bi_T _ _ _ _ _
  refine bi_Tr 4 (s' := (155, [(0, .ref 77), (1, .int y1)], [.int (st_g s 77 21), .ref 82], st_mm s)) rfl ?_
  obtain ⟨hi, h⟩ := h
  refine bi_Tbal rfl rfl rfl hi ?_
  refine bi_Tr 1 (s' := ((if ¬ (st_g s 82 ((st_g s 77 21)).toNatClampNeg) = 0 then 216 else 159), [(0, .ref 77), (1, .int y1)], [], st_mm s)) rfl (bi_Tif (fun hc => ?_) (fun hc => ?_))
  · have h := h.1 hc
    exact bi_Tww h rfl rfl ⟨rfl, rfl, trivial⟩
  · have h := h.2 hc
    refine bi_Tr 2 (s' := (161, [(0, .ref 77), (1, .int y1)], [.int (4 : Int32), .ref 77], st_mm s)) rfl ?_
    refine bi_TcV (as := [.ref 77, .int (4 : Int32)]) rfl rfl ?_
    refine cV.mono h (fun s24 h => ?_) (fun _ _ h => h.elim)
    refine bi_Tr 3 (s' := (168, [(0, .ref 77), (1, .int y1)], [.int (60 : Int32), .ref 77, .ref 77], st_mm s24)) rfl ?_
    refine bi_TcI (as := [.ref 77, .int (60 : Int32)]) rfl rfl ?_
    refine cI.mono h (fun r25 s25 h => ?_) (fun _ _ h => h.elim)
    refine bi_Tr 1 (s' := ((if r25 = 0 then 179 else 174), [(0, .ref 77), (1, .int y1)], [.ref 77], st_mm s25)) rfl (bi_Tif (fun hc => ?_) (fun hc => ?_))
    · have h := h.1 hc
      refine bi_Tr 1 (s' := (181, [(0, .ref 77), (1, .int y1)], [.int (7 : Int32), .ref 77], st_mm s25)) rfl ?_
      refine bi_TcV (as := [.ref 77, .int (7 : Int32)]) rfl rfl ?_
      refine cV.mono h (fun s26 h => ?_) (fun _ _ h => h.elim)
      refine bi_Tr 5 (s' := (193, [(0, .ref 77), (1, .int y1)], [.int (1 : Int32), .int (st_g s26 77 21), .ref 82], st_mm s26)) rfl ?_
      obtain ⟨hi, h⟩ := h
      refine bi_Tbas rfl rfl rfl hi ?_
      refine bi_Tr 7 (s' := (205, [(0, .ref 77), (1, .int y1)], [.ref 77], st_mm (st_p (st_p s26 82 ((st_g s26 77 21)).toNatClampNeg (bi_nar 15 (1 : Int32))) 77 22 ((st_g (st_p s26 82 ((st_g s26 77 21)).toNatClampNeg (bi_nar 15 (1 : Int32))) 77 22) + (1 : Int32))))) rfl ?_
      refine bi_TcV (as := [.ref 77]) rfl rfl ?_
      refine cV.mono h (fun s27 h => ?_) (fun _ _ h => h.elim)
      refine bi_Tr 2 (s' := (210, [(0, .ref 77), (1, .int y1)], [.int (0 : Int32), .ref 77], st_mm s27)) rfl ?_
      refine bi_TcV (as := [.ref 77, .int (0 : Int32)]) rfl rfl ?_
      refine cV.mono h (fun s28 h => ?_) (fun _ _ h => h.elim)
      refine bi_Tr 1 (s' := (398, [(0, .ref 77), (1, .int y1)], [], st_mm s28)) rfl ?_
      exact bi_Tww h rfl rfl ⟨rfl, rfl, trivial⟩
    · have h := h.2 hc
      refine bi_Tr 2 (s' := (181, [(0, .ref 77), (1, .int y1)], [.int (6 : Int32), .ref 77], st_mm s25)) rfl ?_
      refine bi_TcV (as := [.ref 77, .int (6 : Int32)]) rfl rfl ?_
      refine cV.mono h (fun s29 h => ?_) (fun _ _ h => h.elim)
      refine bi_Tr 5 (s' := (193, [(0, .ref 77), (1, .int y1)], [.int (1 : Int32), .int (st_g s29 77 21), .ref 82], st_mm s29)) rfl ?_
      obtain ⟨hi, h⟩ := h
      refine bi_Tbas rfl rfl rfl hi ?_
      refine bi_Tr 7 (s' := (205, [(0, .ref 77), (1, .int y1)], [.ref 77], st_mm (st_p (st_p s29 82 ((st_g s29 77 21)).toNatClampNeg (bi_nar 15 (1 : Int32))) 77 22 ((st_g (st_p s29 82 ((st_g s29 77 21)).toNatClampNeg (bi_nar 15 (1 : Int32))) 77 22) + (1 : Int32))))) rfl ?_
      refine bi_TcV (as := [.ref 77]) rfl rfl ?_
      refine cV.mono h (fun s30 h => ?_) (fun _ _ h => h.elim)
      refine bi_Tr 2 (s' := (210, [(0, .ref 77), (1, .int y1)], [.int (0 : Int32), .ref 77], st_mm s30)) rfl ?_
      refine bi_TcV (as := [.ref 77, .int (0 : Int32)]) rfl rfl ?_
      refine cV.mono h (fun s31 h => ?_) (fun _ _ h => h.elim)
      refine bi_Tr 1 (s' := (398, [(0, .ref 77), (1, .int y1)], [], st_mm s31)) rfl ?_
      exact bi_Tww h rfl rfl ⟨rfl, rfl, trivial⟩
theorem go_X12_expression_216 {X : bi_X} {d : Nat} {K : bi_St → Prop} {E : Nat → bi_St → Prop}  {s : bi_St} {y1 : Int32}  (h : cI X d 178 [.ref 77, .int (43 : Int32)] s (fun (r32 : Int32) (s32 : bi_St) => ((¬ r32 = 0) → at_X12_expression_234 X (d + 1) K E s32 (y1)) ∧ (¬ (¬ r32 = 0) → cI X d 178 [.ref 77, .int (45 : Int32)] s32 (fun (r33 : Int32) (s33 : bi_St) => ((r33 = 0) → cI X d 178 [.ref 77, .int (42 : Int32)] s33 (fun (r34 : Int32) (s34 : bi_St) => ((¬ r34 = 0) → at_X12_expression_299 X (d + 1) K E s34 (y1)) ∧ (¬ (¬ r34 = 0) → cI X d 178 [.ref 77, .int (47 : Int32)] s34 (fun (r35 : Int32) (s35 : bi_St) => ((r35 = 0) → cI X d 178 [.ref 77, .int (41 : Int32)] s35 (fun (r36 : Int32) (s36 : bi_St) => ((r36 = 0) → at_X12_expression_396 X (d + 1) K E s36) ∧ (¬ (r36 = 0) → cI X d 192 [.ref 77] s36 (fun (r37 : Int32) (s37 : bi_St) => ((r37 = 0) → at_X12_expression_396 X (d + 1) K E s37) ∧ (¬ (r37 = 0) → cV X d 193 [.ref 77] s37 (fun (s38 : bi_St) => at_X12_expression_398 X (d + 1) K E s38 (y1)) (fun _ _ => False))) (fun _ _ => False))) (fun _ _ => False)) ∧ (¬ (r35 = 0) → at_X12_expression_299 X (d + 1) K E s35 (y1))) (fun _ _ => False))) (fun _ _ => False)) ∧ (¬ (r33 = 0) → at_X12_expression_234 X (d + 1) K E s33 (y1))) (fun _ _ => False))) (fun _ _ => False)) : at_X12_expression_216 X (d + 1) K E s y1 := by
  show bi_T _ _ _ _ _
  refine bi_Tr 2 (s' := (219, [(0, .ref 77), (1, .int y1)], [.int (43 : Int32), .ref 77], st_mm s)) rfl ?_
  refine bi_TcI (as := [.ref 77, .int (43 : Int32)]) rfl rfl ?_
  refine cI.mono h (fun r32 s32 h => ?_) (fun _ _ h => h.elim)
  refine bi_Tr 1 (s' := ((if ¬ r32 = 0 then 234 else 225), [(0, .ref 77), (1, .int y1)], [], st_mm s32)) rfl (bi_Tif (fun hc => ?_) (fun hc => ?_))
  · have h := h.1 hc
    exact bi_Tww h rfl rfl ⟨rfl, rfl, trivial⟩
  · have h := h.2 hc
    refine bi_Tr 2 (s' := (228, [(0, .ref 77), (1, .int y1)], [.int (45 : Int32), .ref 77], st_mm s32)) rfl ?_
    refine bi_TcI (as := [.ref 77, .int (45 : Int32)]) rfl rfl ?_
    refine cI.mono h (fun r33 s33 h => ?_) (fun _ _ h => h.elim)
    refine bi_Tr 1 (s' := ((if r33 = 0 then 281 else 234), [(0, .ref 77), (1, .int y1)], [], st_mm s33)) rfl (bi_Tif (fun hc => ?_) (fun hc => ?_))
    · have h := h.1 hc
      refine bi_Tr 2 (s' := (284, [(0, .ref 77), (1, .int y1)], [.int (42 : Int32), .ref 77], st_mm s33)) rfl ?_
      refine bi_TcI (as := [.ref 77, .int (42 : Int32)]) rfl rfl ?_
      refine cI.mono h (fun r34 s34 h => ?_) (fun _ _ h => h.elim)
      refine bi_Tr 1 (s' := ((if ¬ r34 = 0 then 299 else 290), [(0, .ref 77), (1, .int y1)], [], st_mm s34)) rfl (bi_Tif (fun hc => ?_) (fun hc => ?_))
      · have h := h.1 hc
        exact bi_Tww h rfl rfl ⟨rfl, rfl, trivial⟩
      · have h := h.2 hc
        refine bi_Tr 2 (s' := (293, [(0, .ref 77), (1, .int y1)], [.int (47 : Int32), .ref 77], st_mm s34)) rfl ?_
        refine bi_TcI (as := [.ref 77, .int (47 : Int32)]) rfl rfl ?_
        refine cI.mono h (fun r35 s35 h => ?_) (fun _ _ h => h.elim)
        refine bi_Tr 1 (s' := ((if r35 = 0 then 373 else 299), [(0, .ref 77), (1, .int y1)], [], st_mm s35)) rfl (bi_Tif (fun hc => ?_) (fun hc => ?_))
        · have h := h.1 hc
          refine bi_Tr 2 (s' := (376, [(0, .ref 77), (1, .int y1)], [.int (41 : Int32), .ref 77], st_mm s35)) rfl ?_
          refine bi_TcI (as := [.ref 77, .int (41 : Int32)]) rfl rfl ?_
          refine cI.mono h (fun r36 s36 h => ?_) (fun _ _ h => h.elim)
          refine bi_Tr 1 (s' := ((if r36 = 0 then 396 else 382), [(0, .ref 77), (1, .int y1)], [], st_mm s36)) rfl (bi_Tif (fun hc => ?_) (fun hc => ?_))
          · have h := h.1 hc
            exact bi_Tww h rfl rfl ⟨rfl, trivial⟩
          · have h := h.2 hc
            refine bi_Tr 1 (s' := (383, [(0, .ref 77), (1, .int y1)], [.ref 77], st_mm s36)) rfl ?_
            refine bi_TcI (as := [.ref 77]) rfl rfl ?_
            refine cI.mono h (fun r37 s37 h => ?_) (fun _ _ h => h.elim)
            refine bi_Tr 1 (s' := ((if r37 = 0 then 396 else 389), [(0, .ref 77), (1, .int y1)], [], st_mm s37)) rfl (bi_Tif (fun hc => ?_) (fun hc => ?_))
            · have h := h.1 hc
              exact bi_Tww h rfl rfl ⟨rfl, trivial⟩
            · have h := h.2 hc
              refine bi_Tr 1 (s' := (390, [(0, .ref 77), (1, .int y1)], [.ref 77], st_mm s37)) rfl ?_
              refine bi_TcV (as := [.ref 77]) rfl rfl ?_
              refine cV.mono h (fun s38 h => ?_) (fun _ _ h => h.elim)
              refine bi_Tr 1 (s' := (398, [(0, .ref 77), (1, .int y1)], [], st_mm s38)) rfl ?_
              exact bi_Tww h rfl rfl ⟨rfl, rfl, trivial⟩
        · have h := h.2 hc
          exact bi_Tww h rfl rfl ⟨rfl, rfl, trivial⟩
    · have h := h.2 hc
      exact bi_Tww h rfl rfl ⟨rfl, rfl, trivial⟩
theorem go_X12_expression_421 {X : bi_X} {d : Nat} {K : bi_St → Prop} {E : Nat → bi_St → Prop}  {s : bi_St}   (h : cV X d 187 [.ref 77, .int (0 : Int32)] s (fun (s39 : bi_St) => cV X d 184 [.ref 77, .int (0 : Int32)] s39 (fun (s40 : bi_St) => K s40) (fun _ _ => False)) (fun _ _ => False)) : at_X12_expression_421 X (d + 1) K E s  := by
  show bi_T _ _ _ _ _
  refine bi_Tr 2 (s' := (423, [(0, .ref 77)], [.int (0 : Int32), .ref 77], st_mm s)) rfl ?_
  refine bi_TcV (as := [.ref 77, .int (0 : Int32)]) rfl rfl ?_
  refine cV.mono h (fun s39 h => ?_) (fun _ _ h => h.elim)
  refine bi_Tr 2 (s' := (428, [(0, .ref 77)], [.int (0 : Int32), .ref 77], st_mm s39)) rfl ?_
  refine bi_TcV (as := [.ref 77, .int (0 : Int32)]) rfl rfl ?_
  refine cV.mono h (fun s40 h => ?_) (fun _ _ h => h.elim)
  exact bi_Tv rfl rfl (Or.inl ⟨_, rfl, h⟩)
theorem go_X12_expression_398 {X : bi_X} {d : Nat} {K : bi_St → Prop} {E : Nat → bi_St → Prop}  {s : bi_St} {y1 : Int32}  (h : at_X12_expression_39 X (d + 1) K E s (y1)) : at_X12_expression_398 X (d + 1) K E s y1 := by
  show bi_T _ _ _ _ _
  refine bi_Tr 1 (s' := (39, [(0, .ref 77), (1, .int y1)], [], st_mm s)) rfl ?_
  exact bi_Tww h rfl rfl ⟨rfl, rfl, trivial⟩
theorem go_X12_expression_234 {X : bi_X} {d : Nat} {K : bi_St → Prop} {E : Nat → bi_St → Prop}  {s : bi_St} {y1 : Int32}  (h : cV X d 187 [.ref 77, .int (5 : Int32)] s (fun (s41 : bi_St) => cI X d 178 [.ref 77, .int (43 : Int32)] s41 (fun (r42 : Int32) (s42 : bi_St) => ((r42 = 0) → cV X d 188 [.ref 77, .int (9 : Int32)] s42 (fun (s43 : bi_St) => cV X d 172 [.ref 77] (st_p s43 77 22 ((st_g s43 77 22) + (1 : Int32))) (fun (s44 : bi_St) => cV X d 191 [.ref 77, .int (0 : Int32)] s44 (fun (s45 : bi_St) => at_X12_expression_398 X (d + 1) K E s45 (y1)) (fun _ _ => False)) (fun _ _ => False)) (fun _ _ => False)) ∧ (¬ (r42 = 0) → cV X d 188 [.ref 77, .int (8 : Int32)] s42 (fun (s46 : bi_St) => cV X d 172 [.ref 77] (st_p s46 77 22 ((st_g s46 77 22) + (1 : Int32))) (fun (s47 : bi_St) => cV X d 191 [.ref 77, .int (0 : Int32)] s47 (fun (s48 : bi_St) => at_X12_expression_398 X (d + 1) K E s48 (y1)) (fun _ _ => False)) (fun _ _ => False)) (fun _ _ => False))) (fun _ _ => False)) (fun _ _ => False)) : at_X12_expression_234 X (d + 1) K E s y1 := by
  show bi_T _ _ _ _ _
  refine bi_Tr 2 (s' := (236, [(0, .ref 77), (1, .int y1)], [.int (5 : Int32), .ref 77], st_mm s)) rfl ?_
  refine bi_TcV (as := [.ref 77, .int (5 : Int32)]) rfl rfl ?_
  refine cV.mono h (fun s41 h => ?_) (fun _ _ h => h.elim)
  refine bi_Tr 3 (s' := (243, [(0, .ref 77), (1, .int y1)], [.int (43 : Int32), .ref 77, .ref 77], st_mm s41)) rfl ?_
  refine bi_TcI (as := [.ref 77, .int (43 : Int32)]) rfl rfl ?_
  refine cI.mono h (fun r42 s42 h => ?_) (fun _ _ h => h.elim)
  refine bi_Tr 1 (s' := ((if r42 = 0 then 254 else 249), [(0, .ref 77), (1, .int y1)], [.ref 77], st_mm s42)) rfl (bi_Tif (fun hc => ?_) (fun hc => ?_))
  · have h := h.1 hc
    refine bi_Tr 1 (s' := (256, [(0, .ref 77), (1, .int y1)], [.int (9 : Int32), .ref 77], st_mm s42)) rfl ?_
    refine bi_TcV (as := [.ref 77, .int (9 : Int32)]) rfl rfl ?_
    refine cV.mono h (fun s43 h => ?_) (fun _ _ h => h.elim)
    refine bi_Tr 7 (s' := (270, [(0, .ref 77), (1, .int y1)], [.ref 77], st_mm (st_p s43 77 22 ((st_g s43 77 22) + (1 : Int32))))) rfl ?_
    refine bi_TcV (as := [.ref 77]) rfl rfl ?_
    refine cV.mono h (fun s44 h => ?_) (fun _ _ h => h.elim)
    refine bi_Tr 2 (s' := (275, [(0, .ref 77), (1, .int y1)], [.int (0 : Int32), .ref 77], st_mm s44)) rfl ?_
    refine bi_TcV (as := [.ref 77, .int (0 : Int32)]) rfl rfl ?_
    refine cV.mono h (fun s45 h => ?_) (fun _ _ h => h.elim)
    refine bi_Tr 1 (s' := (398, [(0, .ref 77), (1, .int y1)], [], st_mm s45)) rfl ?_
    exact bi_Tww h rfl rfl ⟨rfl, rfl, trivial⟩
  · have h := h.2 hc
    refine bi_Tr 2 (s' := (256, [(0, .ref 77), (1, .int y1)], [.int (8 : Int32), .ref 77], st_mm s42)) rfl ?_
    refine bi_TcV (as := [.ref 77, .int (8 : Int32)]) rfl rfl ?_
    refine cV.mono h (fun s46 h => ?_) (fun _ _ h => h.elim)
    refine bi_Tr 7 (s' := (270, [(0, .ref 77), (1, .int y1)], [.ref 77], st_mm (st_p s46 77 22 ((st_g s46 77 22) + (1 : Int32))))) rfl ?_
    refine bi_TcV (as := [.ref 77]) rfl rfl ?_
    refine cV.mono h (fun s47 h => ?_) (fun _ _ h => h.elim)
    refine bi_Tr 2 (s' := (275, [(0, .ref 77), (1, .int y1)], [.int (0 : Int32), .ref 77], st_mm s47)) rfl ?_
    refine bi_TcV (as := [.ref 77, .int (0 : Int32)]) rfl rfl ?_
    refine cV.mono h (fun s48 h => ?_) (fun _ _ h => h.elim)
    refine bi_Tr 1 (s' := (398, [(0, .ref 77), (1, .int y1)], [], st_mm s48)) rfl ?_
    exact bi_Tww h rfl rfl ⟨rfl, rfl, trivial⟩
theorem go_X12_expression_299 {X : bi_X} {d : Nat} {K : bi_St → Prop} {E : Nat → bi_St → Prop}  {s : bi_St} {y1 : Int32}  (h : cI X d 178 [.ref 77, .int (47 : Int32)] s (fun (r49 : Int32) (s49 : bi_St) => cV X d 187 [.ref 77, .int (6 : Int32)] s49 (fun (s50 : bi_St) => ((r49 = 0) → cV X d 188 [.ref 77, .int (10 : Int32)] s50 (fun (s51 : bi_St) => cV X d 172 [.ref 77] (st_p s51 77 22 ((st_g s51 77 22) + (1 : Int32))) (fun (s52 : bi_St) => ((r49 = 0) → at_X12_expression_365 X (d + 1) K E s52 (y1)) ∧ (¬ (r49 = 0) → ((¬ (st_g s52 77 8) = (2 : Int32)) → at_X12_expression_360 X (d + 1) K E s52 (y1)) ∧ (¬ (¬ (st_g s52 77 8) = (2 : Int32)) → ((¬ (st_g s52 77 11) = 0) → at_X12_expression_365 X (d + 1) K E s52 (y1)) ∧ (¬ (¬ (st_g s52 77 11) = 0) → at_X12_expression_360 X (d + 1) K E s52 (y1))))) (fun _ _ => False)) (fun _ _ => False)) ∧ (¬ (r49 = 0) → cV X d 188 [.ref 77, .int (11 : Int32)] s50 (fun (s53 : bi_St) => cV X d 172 [.ref 77] (st_p s53 77 22 ((st_g s53 77 22) + (1 : Int32))) (fun (s54 : bi_St) => ((r49 = 0) → at_X12_expression_365 X (d + 1) K E s54 (y1)) ∧ (¬ (r49 = 0) → ((¬ (st_g s54 77 8) = (2 : Int32)) → at_X12_expression_360 X (d + 1) K E s54 (y1)) ∧ (¬ (¬ (st_g s54 77 8) = (2 : Int32)) → ((¬ (st_g s54 77 11) = 0) → at_X12_expression_365 X (d + 1) K E s54 (y1)) ∧ (¬ (¬ (st_g s54 77 11) = 0) → at_X12_expression_360 X (d + 1) K E s54 (y1))))) (fun _ _ => False)) (fun _ _ => False))) (fun _ _ => False)) (fun _ _ => False)) : at_X12_expression_299 X (d + 1) K E s y1 := by
  show bi_T _ _ _ _ _
  refine bi_Tr 2 (s' := (302, [(0, .ref 77), (1, .int y1)], [.int (47 : Int32), .ref 77], st_mm s)) rfl ?_
  refine bi_TcI (as := [.ref 77, .int (47 : Int32)]) rfl rfl ?_
  refine cI.mono h (fun r49 s49 h => ?_) (fun _ _ h => h.elim)
  refine bi_Tr 3 (s' := (309, [(3, .int r49), (0, .ref 77), (1, .int y1)], [.int (6 : Int32), .ref 77], st_mm s49)) rfl ?_
  refine bi_TcV (as := [.ref 77, .int (6 : Int32)]) rfl rfl ?_
  refine cV.mono h (fun s50 h => ?_) (fun _ _ h => h.elim)
  refine bi_Tr 3 (s' := ((if r49 = 0 then 322 else 317), [(3, .int r49), (0, .ref 77), (1, .int y1)], [.ref 77], st_mm s50)) rfl (bi_Tif (fun hc => ?_) (fun hc => ?_))
  · have h := h.1 hc
    refine bi_Tr 1 (s' := (324, [(3, .int r49), (0, .ref 77), (1, .int y1)], [.int (10 : Int32), .ref 77], st_mm s50)) rfl ?_
    refine bi_TcV (as := [.ref 77, .int (10 : Int32)]) rfl rfl ?_
    refine cV.mono h (fun s51 h => ?_) (fun _ _ h => h.elim)
    refine bi_Tr 7 (s' := (338, [(3, .int r49), (0, .ref 77), (1, .int y1)], [.ref 77], st_mm (st_p s51 77 22 ((st_g s51 77 22) + (1 : Int32))))) rfl ?_
    refine bi_TcV (as := [.ref 77]) rfl rfl ?_
    refine cV.mono h (fun s52 h => ?_) (fun _ _ h => h.elim)
    refine bi_Tr 2 (s' := ((if r49 = 0 then 365 else 345), [(3, .int r49), (0, .ref 77), (1, .int y1)], [], st_mm s52)) rfl (bi_Tif (fun hc => ?_) (fun hc => ?_))
    · have h := h.1 hc
      exact bi_Tww h rfl rfl ⟨rfl, rfl, trivial⟩
    · have h := h.2 hc
      refine bi_Tr 4 (s' := ((if ¬ (st_g s52 77 8) = (2 : Int32) then 360 else 353), [(3, .int r49), (0, .ref 77), (1, .int y1)], [], st_mm s52)) rfl (bi_Tif (fun hc => ?_) (fun hc => ?_))
      · have h := h.1 hc
        exact bi_Tww h rfl rfl ⟨rfl, rfl, trivial⟩
      · have h := h.2 hc
        refine bi_Tr 3 (s' := ((if ¬ (st_g s52 77 11) = 0 then 365 else 360), [(3, .int r49), (0, .ref 77), (1, .int y1)], [], st_mm s52)) rfl (bi_Tif (fun hc => ?_) (fun hc => ?_))
        · have h := h.1 hc
          exact bi_Tww h rfl rfl ⟨rfl, rfl, trivial⟩
        · have h := h.2 hc
          exact bi_Tww h rfl rfl ⟨rfl, rfl, trivial⟩
  · have h := h.2 hc
    refine bi_Tr 2 (s' := (324, [(3, .int r49), (0, .ref 77), (1, .int y1)], [.int (11 : Int32), .ref 77], st_mm s50)) rfl ?_
    refine bi_TcV (as := [.ref 77, .int (11 : Int32)]) rfl rfl ?_
    refine cV.mono h (fun s53 h => ?_) (fun _ _ h => h.elim)
    refine bi_Tr 7 (s' := (338, [(3, .int r49), (0, .ref 77), (1, .int y1)], [.ref 77], st_mm (st_p s53 77 22 ((st_g s53 77 22) + (1 : Int32))))) rfl ?_
    refine bi_TcV (as := [.ref 77]) rfl rfl ?_
    refine cV.mono h (fun s54 h => ?_) (fun _ _ h => h.elim)
    refine bi_Tr 2 (s' := ((if r49 = 0 then 365 else 345), [(3, .int r49), (0, .ref 77), (1, .int y1)], [], st_mm s54)) rfl (bi_Tif (fun hc => ?_) (fun hc => ?_))
    · have h := h.1 hc
      exact bi_Tww h rfl rfl ⟨rfl, rfl, trivial⟩
    · have h := h.2 hc
      refine bi_Tr 4 (s' := ((if ¬ (st_g s54 77 8) = (2 : Int32) then 360 else 353), [(3, .int r49), (0, .ref 77), (1, .int y1)], [], st_mm s54)) rfl (bi_Tif (fun hc => ?_) (fun hc => ?_))
      · have h := h.1 hc
        exact bi_Tww h rfl rfl ⟨rfl, rfl, trivial⟩
      · have h := h.2 hc
        refine bi_Tr 3 (s' := ((if ¬ (st_g s54 77 11) = 0 then 365 else 360), [(3, .int r49), (0, .ref 77), (1, .int y1)], [], st_mm s54)) rfl (bi_Tif (fun hc => ?_) (fun hc => ?_))
        · have h := h.1 hc
          exact bi_Tww h rfl rfl ⟨rfl, rfl, trivial⟩
        · have h := h.2 hc
          exact bi_Tww h rfl rfl ⟨rfl, rfl, trivial⟩
theorem go_X12_expression_396 {X : bi_X} {d : Nat} {K : bi_St → Prop} {E : Nat → bi_St → Prop}  {s : bi_St}   (h : at_X12_expression_398 X (d + 1) K E s ((0 : Int32))) : at_X12_expression_396 X (d + 1) K E s  := by
  show bi_T _ _ _ _ _
  refine bi_Tr 2 (s' := (398, [(1, .int (0 : Int32)), (0, .ref 77)], [], st_mm s)) rfl ?_
  exact bi_Tww h rfl rfl ⟨rfl, rfl, trivial⟩
theorem go_X12_expression_365 {X : bi_X} {d : Nat} {K : bi_St → Prop} {E : Nat → bi_St → Prop}  {s : bi_St} {y1 : Int32}  (h : cV X d 191 [.ref 77, .int (0 : Int32)] s (fun (s55 : bi_St) => at_X12_expression_398 X (d + 1) K E s55 (y1)) (fun _ _ => False)) : at_X12_expression_365 X (d + 1) K E s y1 := by
  show bi_T _ _ _ _ _
  refine bi_Tr 2 (s' := (367, [(0, .ref 77), (1, .int y1)], [.int (0 : Int32), .ref 77], st_mm s)) rfl ?_
  refine bi_TcV (as := [.ref 77, .int (0 : Int32)]) rfl rfl ?_
  refine cV.mono h (fun s55 h => ?_) (fun _ _ h => h.elim)
  refine bi_Tr 1 (s' := (398, [(0, .ref 77), (1, .int y1)], [], st_mm s55)) rfl ?_
  exact bi_Tww h rfl rfl ⟨rfl, rfl, trivial⟩
theorem go_X12_expression_360 {X : bi_X} {d : Nat} {K : bi_St → Prop} {E : Nat → bi_St → Prop}  {s : bi_St} {y1 : Int32}  (h : at_X12_expression_365 X (d + 1) K E (st_p s 77 23 (0 : Int32)) (y1)) : at_X12_expression_360 X (d + 1) K E s y1 := by
  show bi_T _ _ _ _ _
  refine bi_Tr 2 (s' := (362, [(0, .ref 77), (1, .int y1)], [.int (0 : Int32), .ref 77], st_mm s)) rfl ?_
  refine bi_Tpz rfl rfl rfl rfl rfl rfl ?_
  exact bi_Tww h rfl rfl ⟨rfl, rfl, trivial⟩
/-- PolicyRowsModel.expression()V -/
theorem en_X12_expression {X : bi_X} {d : Nat} {K : bi_St → Prop} {E : Nat → bi_St → Prop} {s : bi_St}   (h : cI X d 177 [.ref 77] (st_p (st_p s 77 22 (0 : Int32)) 77 23 (1 : Int32)) (fun (r1 : Int32) (s1 : bi_St) => ((¬ r1 = 0) → cV X d 190 [.ref 77] (st_p (st_p s1 77 20 (0 : Int32)) 77 21 (0 : Int32)) (fun (s2 : bi_St) => cV X d 191 [.ref 77, .int (1 : Int32)] s2 (fun (s3 : bi_St) => at_X12_expression_39 X (d + 1) K E s3 ((1 : Int32))) (fun _ _ => False)) (fun _ _ => False)) ∧ (¬ (¬ r1 = 0) → K s1)) (fun _ _ => False)) : cV X (d + 1) 194 [.ref 77] s K E := by
  show bi_T _ _ _ _ _
  refine bi_Tr 5 (s' := (7, [(0, .ref 77)], [.int (1 : Int32), .ref 77], st_mm (st_p s 77 22 (0 : Int32)))) rfl ?_
  refine bi_Tpz rfl rfl rfl rfl rfl rfl ?_
  refine bi_Tr 1 (s' := (11, [(0, .ref 77)], [.ref 77], st_mm (st_p (st_p s 77 22 (0 : Int32)) 77 23 (1 : Int32)))) rfl ?_
  refine bi_TcI (as := [.ref 77]) rfl rfl ?_
  refine cI.mono h (fun r1 s1 h => ?_) (fun _ _ h => h.elim)
  refine bi_Tr 1 (s' := ((if ¬ r1 = 0 then 18 else 17), [(0, .ref 77)], [], st_mm s1)) rfl (bi_Tif (fun hc => ?_) (fun hc => ?_))
  · have h := h.1 hc
    refine bi_Tr 7 (s' := (29, [(0, .ref 77)], [.ref 77], st_mm (st_p (st_p s1 77 20 (0 : Int32)) 77 21 (0 : Int32)))) rfl ?_
    refine bi_TcV (as := [.ref 77]) rfl rfl ?_
    refine cV.mono h (fun s2 h => ?_) (fun _ _ h => h.elim)
    refine bi_Tr 2 (s' := (34, [(0, .ref 77)], [.int (1 : Int32), .ref 77], st_mm s2)) rfl ?_
    refine bi_TcV (as := [.ref 77, .int (1 : Int32)]) rfl rfl ?_
    refine cV.mono h (fun s3 h => ?_) (fun _ _ h => h.elim)
    refine bi_Tr 2 (s' := (39, [(1, .int (1 : Int32)), (0, .ref 77)], [], st_mm s3)) rfl ?_
    exact bi_Tww h rfl rfl ⟨rfl, rfl, trivial⟩
  · have h := h.2 hc
    exact bi_Tv rfl rfl (Or.inl ⟨_, rfl, h⟩)
/-- PolicyRowsModel.begins(Z)Z -/
theorem en_X12_begins {X : bi_X} {d : Nat} {K : Int32 → bi_St → Prop} {E : Nat → bi_St → Prop} {s : bi_St} {x0 : Int32}  (h : ((x0 = 0) → cI X d 177 [.ref 77] s (fun (r1 : Int32) (s1 : bi_St) => ((¬ r1 = 0) → cV X d 172 [.ref 77] s1 (fun (s2 : bi_St) => K (1 : Int32) s2) (fun _ _ => False)) ∧ (¬ (¬ r1 = 0) → K (0 : Int32) s1)) (fun _ _ => False)) ∧ (¬ (x0 = 0) → cV X d 176 [.ref 77, .int (2 : Int32)] s (fun (s3 : bi_St) => cI X d 177 [.ref 77] s3 (fun (r4 : Int32) (s4 : bi_St) => ((¬ r4 = 0) → cV X d 172 [.ref 77] s4 (fun (s5 : bi_St) => K (1 : Int32) s5) (fun _ _ => False)) ∧ (¬ (¬ r4 = 0) → K (0 : Int32) s4)) (fun _ _ => False)) (fun _ _ => False))) : cI X (d + 1) 195 [.ref 77, .int x0] s K E := by
  show bi_T _ _ _ _ _
  refine bi_Tr 2 (s' := ((if x0 = 0 then 9 else 4), [(0, .ref 77), (1, .int x0)], [], st_mm s)) rfl (bi_Tif (fun hc => ?_) (fun hc => ?_))
  · have h := h.1 hc
    refine bi_Tr 1 (s' := (10, [(0, .ref 77), (1, .int x0)], [.ref 77], st_mm s)) rfl ?_
    refine bi_TcI (as := [.ref 77]) rfl rfl ?_
    refine cI.mono h (fun r1 s1 h => ?_) (fun _ _ h => h.elim)
    refine bi_Tr 1 (s' := ((if ¬ r1 = 0 then 18 else 16), [(0, .ref 77), (1, .int x0)], [], st_mm s1)) rfl (bi_Tif (fun hc => ?_) (fun hc => ?_))
    · have h := h.1 hc
      refine bi_Tr 1 (s' := (19, [(0, .ref 77), (1, .int x0)], [.ref 77], st_mm s1)) rfl ?_
      refine bi_TcV (as := [.ref 77]) rfl rfl ?_
      refine cV.mono h (fun s2 h => ?_) (fun _ _ h => h.elim)
      refine bi_Tr 1 (s' := (23, [(0, .ref 77), (1, .int x0)], [.int (1 : Int32)], st_mm s2)) rfl ?_
      exact bi_Tv rfl rfl (Or.inl ⟨_, _, rfl, h⟩)
    · have h := h.2 hc
      refine bi_Tr 1 (s' := (17, [(0, .ref 77), (1, .int x0)], [.int (0 : Int32)], st_mm s1)) rfl ?_
      exact bi_Tv rfl rfl (Or.inl ⟨_, _, rfl, h⟩)
  · have h := h.2 hc
    refine bi_Tr 2 (s' := (6, [(0, .ref 77), (1, .int x0)], [.int (2 : Int32), .ref 77], st_mm s)) rfl ?_
    refine bi_TcV (as := [.ref 77, .int (2 : Int32)]) rfl rfl ?_
    refine cV.mono h (fun s3 h => ?_) (fun _ _ h => h.elim)
    refine bi_Tr 1 (s' := (10, [(0, .ref 77), (1, .int x0)], [.ref 77], st_mm s3)) rfl ?_
    refine bi_TcI (as := [.ref 77]) rfl rfl ?_
    refine cI.mono h (fun r4 s4 h => ?_) (fun _ _ h => h.elim)
    refine bi_Tr 1 (s' := ((if ¬ r4 = 0 then 18 else 16), [(0, .ref 77), (1, .int x0)], [], st_mm s4)) rfl (bi_Tif (fun hc => ?_) (fun hc => ?_))
    · have h := h.1 hc
      refine bi_Tr 1 (s' := (19, [(0, .ref 77), (1, .int x0)], [.ref 77], st_mm s4)) rfl ?_
      refine bi_TcV (as := [.ref 77]) rfl rfl ?_
      refine cV.mono h (fun s5 h => ?_) (fun _ _ h => h.elim)
      refine bi_Tr 1 (s' := (23, [(0, .ref 77), (1, .int x0)], [.int (1 : Int32)], st_mm s5)) rfl ?_
      exact bi_Tv rfl rfl (Or.inl ⟨_, _, rfl, h⟩)
    · have h := h.2 hc
      refine bi_Tr 1 (s' := (17, [(0, .ref 77), (1, .int x0)], [.int (0 : Int32)], st_mm s4)) rfl ?_
      exact bi_Tv rfl rfl (Or.inl ⟨_, _, rfl, h⟩)
def at_X12_readsRole_2 (X : bi_X) (d : Nat) (K : bi_St → Prop) (E : Nat → bi_St → Prop) (s : bi_St) (y1 : Int32) : Prop := bi_T X d 196 (2, [(0, .ref 77), (1, .int y1)], [], st_mm s) (st_RV K E)
theorem go_X12_readsRole_2 {X : bi_X} {d : Nat} {K : bi_St → Prop} {E : Nat → bi_St → Prop}  {s : bi_St} {y1 : Int32}  (h : cI X d 177 [.ref 77] s (fun (r1 : Int32) (s1 : bi_St) => ((r1 = 0) → cI X d 177 [.ref 77] s1 (fun (r2 : Int32) (s2 : bi_St) => ((¬ r2 = 0) → bi_in (st_g s2 77 15) 72 = true ∧ (K (st_p (st_p s2 89 ((st_g s2 77 15)).toNatClampNeg y1) 77 15 ((st_g (st_p s2 89 ((st_g s2 77 15)).toNatClampNeg y1) 77 15) + (1 : Int32))))) ∧ (¬ (¬ r2 = 0) → K s2)) (fun _ _ => False)) ∧ (¬ (r1 = 0) → ((¬ (st_g s1 77 8) = (2 : Int32)) → cI X d 177 [.ref 77] s1 (fun (r3 : Int32) (s3 : bi_St) => ((¬ r3 = 0) → bi_in (st_g s3 77 15) 72 = true ∧ (K (st_p (st_p s3 89 ((st_g s3 77 15)).toNatClampNeg y1) 77 15 ((st_g (st_p s3 89 ((st_g s3 77 15)).toNatClampNeg y1) 77 15) + (1 : Int32))))) ∧ (¬ (¬ r3 = 0) → K s3)) (fun _ _ => False)) ∧ (¬ (¬ (st_g s1 77 8) = (2 : Int32)) → cI X d 182 [.ref 77] s1 (fun (r4 : Int32) (s4 : bi_St) => cI X d 177 [.ref 77] s4 (fun (r5 : Int32) (s5 : bi_St) => ((¬ r5 = 0) → cV X d 172 [.ref 77] s5 (fun (s6 : bi_St) => at_X12_readsRole_2 X (d + 1) K E s6 ((y1 ||| ((1 : Int32) <<< (r4 &&& 31))))) (fun _ _ => False)) ∧ (¬ (¬ r5 = 0) → K s5)) (fun _ _ => False)) (fun _ _ => False)))) (fun _ _ => False)) : at_X12_readsRole_2 X (d + 1) K E s y1 := by
  show bi_T _ _ _ _ _
  refine bi_Tr 1 (s' := (3, [(0, .ref 77), (1, .int y1)], [.ref 77], st_mm s)) rfl ?_
  refine bi_TcI (as := [.ref 77]) rfl rfl ?_
  refine cI.mono h (fun r1 s1 h => ?_) (fun _ _ h => h.elim)
  refine bi_Tr 1 (s' := ((if r1 = 0 then 43 else 9), [(0, .ref 77), (1, .int y1)], [], st_mm s1)) rfl (bi_Tif (fun hc => ?_) (fun hc => ?_))
  · have h := h.1 hc
    refine bi_Tr 1 (s' := (44, [(0, .ref 77), (1, .int y1)], [.ref 77], st_mm s1)) rfl ?_
    refine bi_TcI (as := [.ref 77]) rfl rfl ?_
    refine cI.mono h (fun r2 s2 h => ?_) (fun _ _ h => h.elim)
    refine bi_Tr 1 (s' := ((if ¬ r2 = 0 then 51 else 50), [(0, .ref 77), (1, .int y1)], [], st_mm s2)) rfl (bi_Tif (fun hc => ?_) (fun hc => ?_))
    · have h := h.1 hc
      refine bi_Tr 5 (s' := (60, [(0, .ref 77), (1, .int y1)], [.int y1, .int (st_g s2 77 15), .ref 89], st_mm s2)) rfl ?_
      obtain ⟨hi, h⟩ := h
      refine bi_Tias rfl rfl hi ?_
      refine bi_Tr 6 (s' := (71, [(0, .ref 77), (1, .int y1)], [], st_mm (st_p (st_p s2 89 ((st_g s2 77 15)).toNatClampNeg y1) 77 15 ((st_g (st_p s2 89 ((st_g s2 77 15)).toNatClampNeg y1) 77 15) + (1 : Int32))))) rfl ?_
      exact bi_Tv rfl rfl (Or.inl ⟨_, rfl, h⟩)
    · have h := h.2 hc
      exact bi_Tv rfl rfl (Or.inl ⟨_, rfl, h⟩)
  · have h := h.2 hc
    refine bi_Tr 4 (s' := ((if ¬ (st_g s1 77 8) = (2 : Int32) then 43 else 17), [(0, .ref 77), (1, .int y1)], [], st_mm s1)) rfl (bi_Tif (fun hc => ?_) (fun hc => ?_))
    · have h := h.1 hc
      refine bi_Tr 1 (s' := (44, [(0, .ref 77), (1, .int y1)], [.ref 77], st_mm s1)) rfl ?_
      refine bi_TcI (as := [.ref 77]) rfl rfl ?_
      refine cI.mono h (fun r3 s3 h => ?_) (fun _ _ h => h.elim)
      refine bi_Tr 1 (s' := ((if ¬ r3 = 0 then 51 else 50), [(0, .ref 77), (1, .int y1)], [], st_mm s3)) rfl (bi_Tif (fun hc => ?_) (fun hc => ?_))
      · have h := h.1 hc
        refine bi_Tr 5 (s' := (60, [(0, .ref 77), (1, .int y1)], [.int y1, .int (st_g s3 77 15), .ref 89], st_mm s3)) rfl ?_
        obtain ⟨hi, h⟩ := h
        refine bi_Tias rfl rfl hi ?_
        refine bi_Tr 6 (s' := (71, [(0, .ref 77), (1, .int y1)], [], st_mm (st_p (st_p s3 89 ((st_g s3 77 15)).toNatClampNeg y1) 77 15 ((st_g (st_p s3 89 ((st_g s3 77 15)).toNatClampNeg y1) 77 15) + (1 : Int32))))) rfl ?_
        exact bi_Tv rfl rfl (Or.inl ⟨_, rfl, h⟩)
      · have h := h.2 hc
        exact bi_Tv rfl rfl (Or.inl ⟨_, rfl, h⟩)
    · have h := h.2 hc
      refine bi_Tr 1 (s' := (18, [(0, .ref 77), (1, .int y1)], [.ref 77], st_mm s1)) rfl ?_
      refine bi_TcI (as := [.ref 77]) rfl rfl ?_
      refine cI.mono h (fun r4 s4 h => ?_) (fun _ _ h => h.elim)
      refine bi_Tr 2 (s' := (23, [(2, .int r4), (0, .ref 77), (1, .int y1)], [.ref 77], st_mm s4)) rfl ?_
      refine bi_TcI (as := [.ref 77]) rfl rfl ?_
      refine cI.mono h (fun r5 s5 h => ?_) (fun _ _ h => h.elim)
      refine bi_Tr 1 (s' := ((if ¬ r5 = 0 then 30 else 29), [(2, .int r4), (0, .ref 77), (1, .int y1)], [], st_mm s5)) rfl (bi_Tif (fun hc => ?_) (fun hc => ?_))
      · have h := h.1 hc
        refine bi_Tr 7 (s' := (37, [(1, .int (y1 ||| ((1 : Int32) <<< (r4 &&& 31)))), (2, .int r4), (0, .ref 77)], [.ref 77], st_mm s5)) rfl ?_
        refine bi_TcV (as := [.ref 77]) rfl rfl ?_
        refine cV.mono h (fun s6 h => ?_) (fun _ _ h => h.elim)
        refine bi_Tr 1 (s' := (2, [(1, .int (y1 ||| ((1 : Int32) <<< (r4 &&& 31)))), (2, .int r4), (0, .ref 77)], [], st_mm s6)) rfl ?_
        exact bi_Tww h rfl rfl ⟨rfl, rfl, trivial⟩
      · have h := h.2 hc
        exact bi_Tv rfl rfl (Or.inl ⟨_, rfl, h⟩)
/-- PolicyRowsModel.readsRole()V -/
theorem en_X12_readsRole {X : bi_X} {d : Nat} {K : bi_St → Prop} {E : Nat → bi_St → Prop} {s : bi_St}   (h : at_X12_readsRole_2 X (d + 1) K E s ((0 : Int32))) : cV X (d + 1) 196 [.ref 77] s K E := by
  show bi_T _ _ _ _ _
  refine bi_Tr 2 (s' := (2, [(1, .int (0 : Int32)), (0, .ref 77)], [], st_mm s)) rfl ?_
  exact bi_Tww h rfl rfl ⟨rfl, rfl, trivial⟩
def at_X12_readsRow_2 (X : bi_X) (d : Nat) (K : bi_St → Prop) (E : Nat → bi_St → Prop) (s : bi_St) (y1 : Int32) : Prop := bi_T X d 197 (2, [(0, .ref 77), (1, .int y1)], [], st_mm s) (st_RV K E)
def at_X12_readsRow_98 (X : bi_X) (d : Nat) (K : bi_St → Prop) (E : Nat → bi_St → Prop) (s : bi_St)  : Prop := bi_T X d 197 (98, [], [], st_mm s) (st_RV K E)
def at_X12_readsRow_30 (X : bi_X) (d : Nat) (K : bi_St → Prop) (E : Nat → bi_St → Prop) (s : bi_St) (y1 : Int32) : Prop := bi_T X d 197 (30, [(0, .ref 77), (1, .int y1)], [], st_mm s) (st_RV K E)
def at_X12_readsRow_40 (X : bi_X) (d : Nat) (K : bi_St → Prop) (E : Nat → bi_St → Prop) (s : bi_St) (y1 : Int32) (y2 : Int32) : Prop := bi_T X d 197 (40, [(0, .ref 77), (1, .int y1), (2, .int y2)], [], st_mm s) (st_RV K E)
theorem go_X12_readsRow_2 {X : bi_X} {d : Nat} {K : bi_St → Prop} {E : Nat → bi_St → Prop}  {s : bi_St} {y1 : Int32}  (h : (((st_g s 77 14) ≤ y1) → cI X d 177 [.ref 77] s (fun (r1 : Int32) (s1 : bi_St) => ((r1 = 0) → at_X12_readsRow_98 X (d + 1) K E s1) ∧ (¬ (r1 = 0) → at_X12_readsRow_98 X (d + 1) K E (st_p s1 77 16 ((st_g s1 77 16) + (1 : Int32))))) (fun _ _ => False)) ∧ (¬ ((st_g s 77 14) ≤ y1) → cI X d 177 [.ref 77] s (fun (r2 : Int32) (s2 : bi_St) => ((r2 = 0) → at_X12_readsRow_30 X (d + 1) K E s2 (y1)) ∧ (¬ (r2 = 0) → cI X d 178 [.ref 77, .int (45 : Int32)] s2 (fun (r3 : Int32) (s3 : bi_St) => ((r3 = 0) → at_X12_readsRow_30 X (d + 1) K E s3 (y1)) ∧ (¬ (r3 = 0) → (((1 : Int32) = 0) → at_X12_readsRow_40 X (d + 1) K E s3 (y1) ((1 : Int32))) ∧ (¬ ((1 : Int32) = 0) → cV X d 172 [.ref 77] s3 (fun (s4 : bi_St) => at_X12_readsRow_40 X (d + 1) K E s4 (y1) ((1 : Int32))) (fun _ _ => False)))) (fun _ _ => False))) (fun _ _ => False))) : at_X12_readsRow_2 X (d + 1) K E s y1 := by
  show bi_T _ _ _ _ _
  refine bi_Tr 4 (s' := ((if (st_g s 77 14) ≤ y1 then 81 else 10), [(0, .ref 77), (1, .int y1)], [], st_mm s)) rfl (bi_Tif (fun hc => ?_) (fun hc => ?_))
  · have h := h.1 hc
    refine bi_Tr 1 (s' := (82, [(0, .ref 77), (1, .int y1)], [.ref 77], st_mm s)) rfl ?_
    refine bi_TcI (as := [.ref 77]) rfl rfl ?_
    refine cI.mono h (fun r1 s1 h => ?_) (fun _ _ h => h.elim)
    refine bi_Tr 1 (s' := ((if r1 = 0 then 98 else 88), [(0, .ref 77), (1, .int y1)], [], st_mm s1)) rfl (bi_Tif (fun hc => ?_) (fun hc => ?_))
    · have h := h.1 hc
      exact bi_Tww h rfl rfl trivial
    · have h := h.2 hc
      refine bi_Tr 6 (s' := (98, [(0, .ref 77), (1, .int y1)], [], st_mm (st_p s1 77 16 ((st_g s1 77 16) + (1 : Int32))))) rfl ?_
      exact bi_Tww h rfl rfl trivial
  · have h := h.2 hc
    refine bi_Tr 1 (s' := (11, [(0, .ref 77), (1, .int y1)], [.ref 77], st_mm s)) rfl ?_
    refine bi_TcI (as := [.ref 77]) rfl rfl ?_
    refine cI.mono h (fun r2 s2 h => ?_) (fun _ _ h => h.elim)
    refine bi_Tr 1 (s' := ((if r2 = 0 then 30 else 17), [(0, .ref 77), (1, .int y1)], [], st_mm s2)) rfl (bi_Tif (fun hc => ?_) (fun hc => ?_))
    · have h := h.1 hc
      exact bi_Tww h rfl rfl ⟨rfl, rfl, trivial⟩
    · have h := h.2 hc
      refine bi_Tr 2 (s' := (20, [(0, .ref 77), (1, .int y1)], [.int (45 : Int32), .ref 77], st_mm s2)) rfl ?_
      refine bi_TcI (as := [.ref 77, .int (45 : Int32)]) rfl rfl ?_
      refine cI.mono h (fun r3 s3 h => ?_) (fun _ _ h => h.elim)
      refine bi_Tr 1 (s' := ((if r3 = 0 then 30 else 26), [(0, .ref 77), (1, .int y1)], [], st_mm s3)) rfl (bi_Tif (fun hc => ?_) (fun hc => ?_))
      · have h := h.1 hc
        exact bi_Tww h rfl rfl ⟨rfl, rfl, trivial⟩
      · have h := h.2 hc
        refine bi_Tr 5 (s' := ((if (1 : Int32) = 0 then 40 else 36), [(2, .int (1 : Int32)), (0, .ref 77), (1, .int y1)], [], st_mm s3)) rfl (bi_Tif (fun hc => ?_) (fun hc => ?_))
        · have h := h.1 hc
          exact bi_Tww h rfl rfl ⟨rfl, rfl, rfl, trivial⟩
        · have h := h.2 hc
          refine bi_Tr 1 (s' := (37, [(2, .int (1 : Int32)), (0, .ref 77), (1, .int y1)], [.ref 77], st_mm s3)) rfl ?_
          refine bi_TcV (as := [.ref 77]) rfl rfl ?_
          refine cV.mono h (fun s4 h => ?_) (fun _ _ h => h.elim)
          exact bi_Tww h rfl rfl ⟨rfl, rfl, rfl, trivial⟩
theorem go_X12_readsRow_98 {X : bi_X} {d : Nat} {K : bi_St → Prop} {E : Nat → bi_St → Prop}  {s : bi_St}   (h : K s) : at_X12_readsRow_98 X (d + 1) K E s  := by
  show bi_T _ _ _ _ _
  exact bi_Tv rfl rfl (Or.inl ⟨_, rfl, h⟩)
theorem go_X12_readsRow_30 {X : bi_X} {d : Nat} {K : bi_St → Prop} {E : Nat → bi_St → Prop}  {s : bi_St} {y1 : Int32}  (h : (((0 : Int32) = 0) → at_X12_readsRow_40 X (d + 1) K E s (y1) ((0 : Int32))) ∧ (¬ ((0 : Int32) = 0) → cV X d 172 [.ref 77] s (fun (s5 : bi_St) => at_X12_readsRow_40 X (d + 1) K E s5 (y1) ((0 : Int32))) (fun _ _ => False))) : at_X12_readsRow_30 X (d + 1) K E s y1 := by
  show bi_T _ _ _ _ _
  refine bi_Tr 4 (s' := ((if (0 : Int32) = 0 then 40 else 36), [(2, .int (0 : Int32)), (0, .ref 77), (1, .int y1)], [], st_mm s)) rfl (bi_Tif (fun hc => ?_) (fun hc => ?_))
  · have h := h.1 hc
    exact bi_Tww h rfl rfl ⟨rfl, rfl, rfl, trivial⟩
  · have h := h.2 hc
    refine bi_Tr 1 (s' := (37, [(2, .int (0 : Int32)), (0, .ref 77), (1, .int y1)], [.ref 77], st_mm s)) rfl ?_
    refine bi_TcV (as := [.ref 77]) rfl rfl ?_
    refine cV.mono h (fun s5 h => ?_) (fun _ _ h => h.elim)
    exact bi_Tww h rfl rfl ⟨rfl, rfl, rfl, trivial⟩
theorem go_X12_readsRow_40 {X : bi_X} {d : Nat} {K : bi_St → Prop} {E : Nat → bi_St → Prop}  {s : bi_St} {y1 : Int32} {y2 : Int32}  (h : cI X d 180 [.ref 77, .int (0 : Int32), .int (99 : Int32)] s (fun (r6 : Int32) (s6 : bi_St) => ((y2 = 0) → bi_in (((8 : Int32) + ((4 : Int32) * (st_g s6 77 16))) + y1) 72 = true ∧ (at_X12_readsRow_2 X (d + 1) K E (st_p s6 89 ((((8 : Int32) + ((4 : Int32) * (st_g s6 77 16))) + y1)).toNatClampNeg r6) ((y1 + (1 : Int32))))) ∧ (¬ (y2 = 0) → bi_in (((8 : Int32) + ((4 : Int32) * (st_g s6 77 16))) + y1) 72 = true ∧ (at_X12_readsRow_2 X (d + 1) K E (st_p s6 89 ((((8 : Int32) + ((4 : Int32) * (st_g s6 77 16))) + y1)).toNatClampNeg ((0 : Int32) - r6)) ((y1 + (1 : Int32)))))) (fun _ _ => False)) : at_X12_readsRow_40 X (d + 1) K E s y1 y2 := by
  show bi_T _ _ _ _ _
  refine bi_Tr 3 (s' := (44, [(0, .ref 77), (1, .int y1), (2, .int y2)], [.int (99 : Int32), .int (0 : Int32), .ref 77], st_mm s)) rfl ?_
  refine bi_TcI (as := [.ref 77, .int (0 : Int32), .int (99 : Int32)]) rfl rfl ?_
  refine cI.mono h (fun r6 s6 h => ?_) (fun _ _ h => h.elim)
  refine bi_Tr 13 (s' := ((if y2 = 0 then 73 else 67), [(3, .int r6), (0, .ref 77), (1, .int y1), (2, .int y2)], [.int (((8 : Int32) + ((4 : Int32) * (st_g s6 77 16))) + y1), .ref 89], st_mm s6)) rfl (bi_Tif (fun hc => ?_) (fun hc => ?_))
  · have h := h.1 hc
    refine bi_Tr 1 (s' := (74, [(3, .int r6), (0, .ref 77), (1, .int y1), (2, .int y2)], [.int r6, .int (((8 : Int32) + ((4 : Int32) * (st_g s6 77 16))) + y1), .ref 89], st_mm s6)) rfl ?_
    obtain ⟨hi, h⟩ := h
    refine bi_Tias rfl rfl hi ?_
    refine bi_Tr 2 (s' := (2, [(1, .int (y1 + (1 : Int32))), (3, .int r6), (0, .ref 77), (2, .int y2)], [], st_mm (st_p s6 89 ((((8 : Int32) + ((4 : Int32) * (st_g s6 77 16))) + y1)).toNatClampNeg r6))) rfl ?_
    exact bi_Tww h rfl rfl ⟨rfl, rfl, trivial⟩
  · have h := h.2 hc
    refine bi_Tr 4 (s' := (74, [(3, .int r6), (0, .ref 77), (1, .int y1), (2, .int y2)], [.int ((0 : Int32) - r6), .int (((8 : Int32) + ((4 : Int32) * (st_g s6 77 16))) + y1), .ref 89], st_mm s6)) rfl ?_
    obtain ⟨hi, h⟩ := h
    refine bi_Tias rfl rfl hi ?_
    refine bi_Tr 2 (s' := (2, [(1, .int (y1 + (1 : Int32))), (3, .int r6), (0, .ref 77), (2, .int y2)], [], st_mm (st_p s6 89 ((((8 : Int32) + ((4 : Int32) * (st_g s6 77 16))) + y1)).toNatClampNeg ((0 : Int32) - r6)))) rfl ?_
    exact bi_Tww h rfl rfl ⟨rfl, rfl, trivial⟩
/-- PolicyRowsModel.readsRow()V -/
theorem en_X12_readsRow {X : bi_X} {d : Nat} {K : bi_St → Prop} {E : Nat → bi_St → Prop} {s : bi_St}   (h : at_X12_readsRow_2 X (d + 1) K E s ((0 : Int32))) : cV X (d + 1) 197 [.ref 77] s K E := by
  show bi_T _ _ _ _ _
  refine bi_Tr 2 (s' := (2, [(1, .int (0 : Int32)), (0, .ref 77)], [], st_mm s)) rfl ?_
  exact bi_Tww h rfl rfl ⟨rfl, rfl, trivial⟩
def at_X12_readsPolicy_45 (X : bi_X) (d : Nat) (K : bi_St → Prop) (E : Nat → bi_St → Prop) (s : bi_St) (y2 : Int32) : Prop := bi_T X d 198 (45, [(0, .ref 77), (2, .int y2)], [], st_mm s) (st_RV K E)
def at_X12_readsPolicy_71 (X : bi_X) (d : Nat) (K : bi_St → Prop) (E : Nat → bi_St → Prop) (s : bi_St) (y2 : Int32) (y3 : Int32) : Prop := bi_T X d 198 (71, [(0, .ref 77), (2, .int y2), (3, .int y3)], [], st_mm s) (st_RV K E)
def at_X12_readsPolicy_76 (X : bi_X) (d : Nat) (K : bi_St → Prop) (E : Nat → bi_St → Prop) (s : bi_St) (y2 : Int32) (y3 : Int32) : Prop := bi_T X d 198 (76, [(0, .ref 77), (2, .int y2), (3, .int y3)], [], st_mm s) (st_RV K E)
def at_X12_readsPolicy_100 (X : bi_X) (d : Nat) (K : bi_St → Prop) (E : Nat → bi_St → Prop) (s : bi_St) (y2 : Int32) (y4 : Int32) : Prop := bi_T X d 198 (100, [(0, .ref 77), (2, .int y2), (4, .int y4)], [], st_mm s) (st_RV K E)
def at_X12_readsPolicy_213 (X : bi_X) (d : Nat) (K : bi_St → Prop) (E : Nat → bi_St → Prop) (s : bi_St)  : Prop := bi_T X d 198 (213, [], [], st_mm s) (st_RV K E)
def at_X12_readsPolicy_190 (X : bi_X) (d : Nat) (K : bi_St → Prop) (E : Nat → bi_St → Prop) (s : bi_St) (y2 : Int32) (y4 : Int32) : Prop := bi_T X d 198 (190, [(0, .ref 77), (2, .int y2), (4, .int y4)], [], st_mm s) (st_RV K E)
theorem go_X12_readsPolicy_45 {X : bi_X} {d : Nat} {K : bi_St → Prop} {E : Nat → bi_St → Prop}  {s : bi_St} {y2 : Int32}  (h : cI X d 177 [.ref 77] s (fun (r3 : Int32) (s3 : bi_St) => ((¬ r3 = 0) → cV X d 172 [.ref 77] s3 (fun (s4 : bi_St) => cI X d 175 [.ref 77] s4 (fun (r5 : Int32) (s5 : bi_St) => ((r5 < 0) → at_X12_readsPolicy_71 X (d + 1) K E s5 (y2) (r5)) ∧ (¬ (r5 < 0) → ((r5 ≤ (4 : Int32)) → at_X12_readsPolicy_76 X (d + 1) K E s5 (y2) (r5)) ∧ (¬ (r5 ≤ (4 : Int32)) → at_X12_readsPolicy_71 X (d + 1) K E s5 (y2) (r5)))) (fun _ _ => False)) (fun _ _ => False)) ∧ (¬ (¬ r3 = 0) → K s3)) (fun _ _ => False)) : at_X12_readsPolicy_45 X (d + 1) K E s y2 := by
  show bi_T _ _ _ _ _
  refine bi_Tr 1 (s' := (46, [(0, .ref 77), (2, .int y2)], [.ref 77], st_mm s)) rfl ?_
  refine bi_TcI (as := [.ref 77]) rfl rfl ?_
  refine cI.mono h (fun r3 s3 h => ?_) (fun _ _ h => h.elim)
  refine bi_Tr 1 (s' := ((if ¬ r3 = 0 then 53 else 52), [(0, .ref 77), (2, .int y2)], [], st_mm s3)) rfl (bi_Tif (fun hc => ?_) (fun hc => ?_))
  · have h := h.1 hc
    refine bi_Tr 1 (s' := (54, [(0, .ref 77), (2, .int y2)], [.ref 77], st_mm s3)) rfl ?_
    refine bi_TcV (as := [.ref 77]) rfl rfl ?_
    refine cV.mono h (fun s4 h => ?_) (fun _ _ h => h.elim)
    refine bi_Tr 1 (s' := (58, [(0, .ref 77), (2, .int y2)], [.ref 77], st_mm s4)) rfl ?_
    refine bi_TcI (as := [.ref 77]) rfl rfl ?_
    refine cI.mono h (fun r5 s5 h => ?_) (fun _ _ h => h.elim)
    refine bi_Tr 3 (s' := ((if r5 < 0 then 71 else 66), [(3, .int r5), (0, .ref 77), (2, .int y2)], [], st_mm s5)) rfl (bi_Tif (fun hc => ?_) (fun hc => ?_))
    · have h := h.1 hc
      exact bi_Tww h rfl rfl ⟨rfl, rfl, rfl, trivial⟩
    · have h := h.2 hc
      refine bi_Tr 3 (s' := ((if r5 ≤ (4 : Int32) then 76 else 71), [(3, .int r5), (0, .ref 77), (2, .int y2)], [], st_mm s5)) rfl (bi_Tif (fun hc => ?_) (fun hc => ?_))
      · have h := h.1 hc
        exact bi_Tww h rfl rfl ⟨rfl, rfl, rfl, trivial⟩
      · have h := h.2 hc
        exact bi_Tww h rfl rfl ⟨rfl, rfl, rfl, trivial⟩
  · have h := h.2 hc
    exact bi_Tv rfl rfl (Or.inl ⟨_, rfl, h⟩)
theorem go_X12_readsPolicy_71 {X : bi_X} {d : Nat} {K : bi_St → Prop} {E : Nat → bi_St → Prop}  {s : bi_St} {y2 : Int32} {y3 : Int32}  (h : cV X d 176 [.ref 77, .int (1 : Int32)] s (fun (s6 : bi_St) => at_X12_readsPolicy_76 X (d + 1) K E s6 (y2) (y3)) (fun _ _ => False)) : at_X12_readsPolicy_71 X (d + 1) K E s y2 y3 := by
  show bi_T _ _ _ _ _
  refine bi_Tr 2 (s' := (73, [(0, .ref 77), (2, .int y2), (3, .int y3)], [.int (1 : Int32), .ref 77], st_mm s)) rfl ?_
  refine bi_TcV (as := [.ref 77, .int (1 : Int32)]) rfl rfl ?_
  refine cV.mono h (fun s6 h => ?_) (fun _ _ h => h.elim)
  exact bi_Tww h rfl rfl ⟨rfl, rfl, rfl, trivial⟩
theorem go_X12_readsPolicy_76 {X : bi_X} {d : Nat} {K : bi_St → Prop} {E : Nat → bi_St → Prop}  {s : bi_St} {y2 : Int32} {y3 : Int32}  (h : cI X d 177 [.ref 77] s (fun (r7 : Int32) (s7 : bi_St) => ((¬ r7 = 0) → bi_in (y2 + (2 : Int32)) 56 = true ∧ (cV X d 172 [.ref 77] (st_p s7 84 ((y2 + (2 : Int32))).toNatClampNeg y3) (fun (s8 : bi_St) => at_X12_readsPolicy_100 X (d + 1) K E s8 (y2) ((0 : Int32))) (fun _ _ => False))) ∧ (¬ (¬ r7 = 0) → K s7)) (fun _ _ => False)) : at_X12_readsPolicy_76 X (d + 1) K E s y2 y3 := by
  show bi_T _ _ _ _ _
  refine bi_Tr 1 (s' := (77, [(0, .ref 77), (2, .int y2), (3, .int y3)], [.ref 77], st_mm s)) rfl ?_
  refine bi_TcI (as := [.ref 77]) rfl rfl ?_
  refine cI.mono h (fun r7 s7 h => ?_) (fun _ _ h => h.elim)
  refine bi_Tr 1 (s' := ((if ¬ r7 = 0 then 84 else 83), [(0, .ref 77), (2, .int y2), (3, .int y3)], [], st_mm s7)) rfl (bi_Tif (fun hc => ?_) (fun hc => ?_))
  · have h := h.1 hc
    refine bi_Tr 6 (s' := (92, [(0, .ref 77), (2, .int y2), (3, .int y3)], [.int y3, .int (y2 + (2 : Int32)), .ref 84], st_mm s7)) rfl ?_
    obtain ⟨hi, h⟩ := h
    refine bi_Tias rfl rfl hi ?_
    refine bi_Tr 1 (s' := (94, [(0, .ref 77), (2, .int y2), (3, .int y3)], [.ref 77], st_mm (st_p s7 84 ((y2 + (2 : Int32))).toNatClampNeg y3))) rfl ?_
    refine bi_TcV (as := [.ref 77]) rfl rfl ?_
    refine cV.mono h (fun s8 h => ?_) (fun _ _ h => h.elim)
    refine bi_Tr 2 (s' := (100, [(4, .int (0 : Int32)), (0, .ref 77), (2, .int y2), (3, .int y3)], [], st_mm s8)) rfl ?_
    exact bi_Tww h rfl rfl ⟨rfl, rfl, rfl, trivial⟩
  · have h := h.2 hc
    exact bi_Tv rfl rfl (Or.inl ⟨_, rfl, h⟩)
theorem go_X12_readsPolicy_100 {X : bi_X} {d : Nat} {K : bi_St → Prop} {E : Nat → bi_St → Prop}  {s : bi_St} {y2 : Int32} {y4 : Int32}  (h : (((2 : Int32) ≤ y4) → cI X d 177 [.ref 77] s (fun (r9 : Int32) (s9 : bi_St) => ((r9 = 0) → at_X12_readsPolicy_213 X (d + 1) K E s9) ∧ (¬ (r9 = 0) → at_X12_readsPolicy_213 X (d + 1) K E (st_p s9 77 17 ((st_g s9 77 17) + (1 : Int32))))) (fun _ _ => False)) ∧ (¬ ((2 : Int32) ≤ y4) → bi_in ((y2 + (3 : Int32)) + y4) 56 = true ∧ (bi_in ((y2 + (5 : Int32)) + y4) 56 = true ∧ (cI X d 177 [.ref 77] (st_p (st_p s 84 (((y2 + (3 : Int32)) + y4)).toNatClampNeg (-1 : Int32)) 84 (((y2 + (5 : Int32)) + y4)).toNatClampNeg (-1 : Int32)) (fun (r10 : Int32) (s10 : bi_St) => ((r10 = 0) → at_X12_readsPolicy_190 X (d + 1) K E s10 (y2) (y4)) ∧ (¬ (r10 = 0) → cI X d 175 [.ref 77] s10 (fun (r11 : Int32) (s11 : bi_St) => ((r11 = ((11 : Int32) + y4)) → cV X d 172 [.ref 77] s11 (fun (s12 : bi_St) => bi_in ((y2 + (3 : Int32)) + y4) 56 = true ∧ (cV X d 194 [.ref 77] (st_p s12 84 (((y2 + (3 : Int32)) + y4)).toNatClampNeg (st_g s12 77 19)) (fun (s13 : bi_St) => bi_in ((y2 + (5 : Int32)) + y4) 56 = true ∧ (at_X12_readsPolicy_190 X (d + 1) K E (st_p s13 84 (((y2 + (5 : Int32)) + y4)).toNatClampNeg (st_g s13 77 22)) (y2) (y4))) (fun _ _ => False))) (fun _ _ => False)) ∧ (¬ (r11 = ((11 : Int32) + y4)) → at_X12_readsPolicy_190 X (d + 1) K E s11 (y2) (y4))) (fun _ _ => False))) (fun _ _ => False))))) : at_X12_readsPolicy_100 X (d + 1) K E s y2 y4 := by
  show bi_T _ _ _ _ _
  refine bi_Tr 3 (s' := ((if (2 : Int32) ≤ y4 then 196 else 106), [(0, .ref 77), (2, .int y2), (4, .int y4)], [], st_mm s)) rfl (bi_Tif (fun hc => ?_) (fun hc => ?_))
  · have h := h.1 hc
    refine bi_Tr 1 (s' := (197, [(0, .ref 77), (2, .int y2), (4, .int y4)], [.ref 77], st_mm s)) rfl ?_
    refine bi_TcI (as := [.ref 77]) rfl rfl ?_
    refine cI.mono h (fun r9 s9 h => ?_) (fun _ _ h => h.elim)
    refine bi_Tr 1 (s' := ((if r9 = 0 then 213 else 203), [(0, .ref 77), (2, .int y2), (4, .int y4)], [], st_mm s9)) rfl (bi_Tif (fun hc => ?_) (fun hc => ?_))
    · have h := h.1 hc
      exact bi_Tww h rfl rfl trivial
    · have h := h.2 hc
      refine bi_Tr 6 (s' := (213, [(0, .ref 77), (2, .int y2), (4, .int y4)], [], st_mm (st_p s9 77 17 ((st_g s9 77 17) + (1 : Int32))))) rfl ?_
      exact bi_Tww h rfl rfl trivial
  · have h := h.2 hc
    refine bi_Tr 8 (s' := (117, [(0, .ref 77), (2, .int y2), (4, .int y4)], [.int (-1 : Int32), .int ((y2 + (3 : Int32)) + y4), .ref 84], st_mm s)) rfl ?_
    obtain ⟨hi, h⟩ := h
    refine bi_Tias rfl rfl hi ?_
    refine bi_Tr 8 (s' := (129, [(0, .ref 77), (2, .int y2), (4, .int y4)], [.int (-1 : Int32), .int ((y2 + (5 : Int32)) + y4), .ref 84], st_mm (st_p s 84 (((y2 + (3 : Int32)) + y4)).toNatClampNeg (-1 : Int32)))) rfl ?_
    obtain ⟨hi, h⟩ := h
    refine bi_Tias rfl rfl hi ?_
    refine bi_Tr 1 (s' := (131, [(0, .ref 77), (2, .int y2), (4, .int y4)], [.ref 77], st_mm (st_p (st_p s 84 (((y2 + (3 : Int32)) + y4)).toNatClampNeg (-1 : Int32)) 84 (((y2 + (5 : Int32)) + y4)).toNatClampNeg (-1 : Int32)))) rfl ?_
    refine bi_TcI (as := [.ref 77]) rfl rfl ?_
    refine cI.mono h (fun r10 s10 h => ?_) (fun _ _ h => h.elim)
    refine bi_Tr 1 (s' := ((if r10 = 0 then 190 else 137), [(0, .ref 77), (2, .int y2), (4, .int y4)], [], st_mm s10)) rfl (bi_Tif (fun hc => ?_) (fun hc => ?_))
    · have h := h.1 hc
      exact bi_Tww h rfl rfl ⟨rfl, rfl, rfl, trivial⟩
    · have h := h.2 hc
      refine bi_Tr 1 (s' := (138, [(0, .ref 77), (2, .int y2), (4, .int y4)], [.ref 77], st_mm s10)) rfl ?_
      refine bi_TcI (as := [.ref 77]) rfl rfl ?_
      refine cI.mono h (fun r11 s11 h => ?_) (fun _ _ h => h.elim)
      refine bi_Tr 4 (s' := ((if r11 = ((11 : Int32) + y4) then 152 else 149), [(0, .ref 77), (2, .int y2), (4, .int y4)], [], st_mm s11)) rfl (bi_Tif (fun hc => ?_) (fun hc => ?_))
      · have h := h.1 hc
        refine bi_Tr 1 (s' := (153, [(0, .ref 77), (2, .int y2), (4, .int y4)], [.ref 77], st_mm s11)) rfl ?_
        refine bi_TcV (as := [.ref 77]) rfl rfl ?_
        refine cV.mono h (fun s12 h => ?_) (fun _ _ h => h.elim)
        refine bi_Tr 9 (s' := (170, [(0, .ref 77), (2, .int y2), (4, .int y4)], [.int (st_g s12 77 19), .int ((y2 + (3 : Int32)) + y4), .ref 84], st_mm s12)) rfl ?_
        obtain ⟨hi, h⟩ := h
        refine bi_Tias rfl rfl hi ?_
        refine bi_Tr 1 (s' := (172, [(0, .ref 77), (2, .int y2), (4, .int y4)], [.ref 77], st_mm (st_p s12 84 (((y2 + (3 : Int32)) + y4)).toNatClampNeg (st_g s12 77 19)))) rfl ?_
        refine bi_TcV (as := [.ref 77]) rfl rfl ?_
        refine cV.mono h (fun s13 h => ?_) (fun _ _ h => h.elim)
        refine bi_Tr 9 (s' := (189, [(0, .ref 77), (2, .int y2), (4, .int y4)], [.int (st_g s13 77 22), .int ((y2 + (5 : Int32)) + y4), .ref 84], st_mm s13)) rfl ?_
        obtain ⟨hi, h⟩ := h
        refine bi_Tias rfl rfl hi ?_
        exact bi_Tww h rfl rfl ⟨rfl, rfl, rfl, trivial⟩
      · have h := h.2 hc
        refine bi_Tr 1 (s' := (190, [(0, .ref 77), (2, .int y2), (4, .int y4)], [], st_mm s11)) rfl ?_
        exact bi_Tww h rfl rfl ⟨rfl, rfl, rfl, trivial⟩
theorem go_X12_readsPolicy_213 {X : bi_X} {d : Nat} {K : bi_St → Prop} {E : Nat → bi_St → Prop}  {s : bi_St}   (h : K s) : at_X12_readsPolicy_213 X (d + 1) K E s  := by
  show bi_T _ _ _ _ _
  exact bi_Tv rfl rfl (Or.inl ⟨_, rfl, h⟩)
theorem go_X12_readsPolicy_190 {X : bi_X} {d : Nat} {K : bi_St → Prop} {E : Nat → bi_St → Prop}  {s : bi_St} {y2 : Int32} {y4 : Int32}  (h : at_X12_readsPolicy_100 X (d + 1) K E s (y2) ((y4 + (1 : Int32)))) : at_X12_readsPolicy_190 X (d + 1) K E s y2 y4 := by
  show bi_T _ _ _ _ _
  refine bi_Tr 2 (s' := (100, [(4, .int (y4 + (1 : Int32))), (0, .ref 77), (2, .int y2)], [], st_mm s)) rfl ?_
  exact bi_Tww h rfl rfl ⟨rfl, rfl, rfl, trivial⟩
/-- PolicyRowsModel.readsPolicy(I)V -/
theorem en_X12_readsPolicy {X : bi_X} {d : Nat} {K : bi_St → Prop} {E : Nat → bi_St → Prop} {s : bi_St} {x0 : Int32}  (h : bi_in ((7 : Int32) * (st_g s 77 17)) 56 = true ∧ (bi_in (((7 : Int32) * (st_g s 77 17)) + (1 : Int32)) 56 = true ∧ (cI X d 175 [.ref 77] (st_p (st_p s 84 (((7 : Int32) * (st_g s 77 17))).toNatClampNeg x0) 84 ((((7 : Int32) * (st_g s 77 17)) + (1 : Int32))).toNatClampNeg (-1 : Int32)) (fun (r1 : Int32) (s1 : bi_St) => ((r1 = (10 : Int32)) → at_X12_readsPolicy_45 X (d + 1) K E s1 (((7 : Int32) * (st_g s 77 17)))) ∧ (¬ (r1 = (10 : Int32)) → cI X d 182 [.ref 77] s1 (fun (r2 : Int32) (s2 : bi_St) => bi_in (((7 : Int32) * (st_g s 77 17)) + (1 : Int32)) 56 = true ∧ (at_X12_readsPolicy_45 X (d + 1) K E (st_p s2 84 ((((7 : Int32) * (st_g s 77 17)) + (1 : Int32))).toNatClampNeg r2) (((7 : Int32) * (st_g s 77 17))))) (fun _ _ => False))) (fun _ _ => False)))) : cV X (d + 1) 198 [.ref 77, .int x0] s K E := by
  show bi_T _ _ _ _ _
  refine bi_Tr 9 (s' := (14, [(2, .int ((7 : Int32) * (st_g s 77 17))), (0, .ref 77), (1, .int x0)], [.int x0, .int ((7 : Int32) * (st_g s 77 17)), .ref 84], st_mm s)) rfl ?_
  obtain ⟨hi, h⟩ := h
  refine bi_Tias rfl rfl hi ?_
  refine bi_Tr 6 (s' := (23, [(2, .int ((7 : Int32) * (st_g s 77 17))), (0, .ref 77), (1, .int x0)], [.int (-1 : Int32), .int (((7 : Int32) * (st_g s 77 17)) + (1 : Int32)), .ref 84], st_mm (st_p s 84 (((7 : Int32) * (st_g s 77 17))).toNatClampNeg x0))) rfl ?_
  obtain ⟨hi, h⟩ := h
  refine bi_Tias rfl rfl hi ?_
  refine bi_Tr 1 (s' := (25, [(2, .int ((7 : Int32) * (st_g s 77 17))), (0, .ref 77), (1, .int x0)], [.ref 77], st_mm (st_p (st_p s 84 (((7 : Int32) * (st_g s 77 17))).toNatClampNeg x0) 84 ((((7 : Int32) * (st_g s 77 17)) + (1 : Int32))).toNatClampNeg (-1 : Int32)))) rfl ?_
  refine bi_TcI (as := [.ref 77]) rfl rfl ?_
  refine cI.mono h (fun r1 s1 h => ?_) (fun _ _ h => h.elim)
  refine bi_Tr 2 (s' := ((if r1 = (10 : Int32) then 45 else 33), [(2, .int ((7 : Int32) * (st_g s 77 17))), (0, .ref 77), (1, .int x0)], [], st_mm s1)) rfl (bi_Tif (fun hc => ?_) (fun hc => ?_))
  · have h := h.1 hc
    exact bi_Tww h rfl rfl ⟨rfl, rfl, trivial⟩
  · have h := h.2 hc
    refine bi_Tr 6 (s' := (41, [(2, .int ((7 : Int32) * (st_g s 77 17))), (0, .ref 77), (1, .int x0)], [.ref 77, .int (((7 : Int32) * (st_g s 77 17)) + (1 : Int32)), .ref 84], st_mm s1)) rfl ?_
    refine bi_TcI (as := [.ref 77]) rfl rfl ?_
    refine cI.mono h (fun r2 s2 h => ?_) (fun _ _ h => h.elim)
    obtain ⟨hi, h⟩ := h
    refine bi_Tias rfl rfl hi ?_
    exact bi_Tww h rfl rfl ⟨rfl, rfl, trivial⟩
def at_X12_readsView_70 (X : bi_X) (d : Nat) (K : bi_St → Prop) (E : Nat → bi_St → Prop) (s : bi_St) (y1 : Int32) : Prop := bi_T X d 199 (70, [(0, .ref 77), (1, .int y1)], [], st_mm s) (st_RV K E)
def at_X12_readsView_116 (X : bi_X) (d : Nat) (K : bi_St → Prop) (E : Nat → bi_St → Prop) (s : bi_St) (y1 : Int32) : Prop := bi_T X d 199 (116, [(0, .ref 77), (1, .int y1)], [], st_mm s) (st_RV K E)
def at_X12_readsView_165 (X : bi_X) (d : Nat) (K : bi_St → Prop) (E : Nat → bi_St → Prop) (s : bi_St) (y1 : Int32) : Prop := bi_T X d 199 (165, [(0, .ref 77), (1, .int y1)], [], st_mm s) (st_RV K E)
def at_X12_readsView_248 (X : bi_X) (d : Nat) (K : bi_St → Prop) (E : Nat → bi_St → Prop) (s : bi_St)  : Prop := bi_T X d 199 (248, [], [], st_mm s) (st_RV K E)
theorem go_X12_readsView_70 {X : bi_X} {d : Nat} {K : bi_St → Prop} {E : Nat → bi_St → Prop}  {s : bi_St} {y1 : Int32}  (h : cI X d 177 [.ref 77] s (fun (r9 : Int32) (s9 : bi_St) => ((¬ r9 = 0) → cI X d 175 [.ref 77] s9 (fun (r10 : Int32) (s10 : bi_St) => ((¬ r10 = (16 : Int32)) → bi_in (y1 + (1 : Int32)) 18 = true ∧ (bi_in (y1 + (1 : Int32)) 18 = true ∧ (((¬ (st_g (st_p s10 86 ((y1 + (1 : Int32))).toNatClampNeg (0 : Int32)) 86 ((y1 + (1 : Int32))).toNatClampNeg) = (1 : Int32)) → at_X12_readsView_116 X (d + 1) K E (st_p s10 86 ((y1 + (1 : Int32))).toNatClampNeg (0 : Int32)) (y1)) ∧ (¬ (¬ (st_g (st_p s10 86 ((y1 + (1 : Int32))).toNatClampNeg (0 : Int32)) 86 ((y1 + (1 : Int32))).toNatClampNeg) = (1 : Int32)) → cV X d 172 [.ref 77] (st_p s10 86 ((y1 + (1 : Int32))).toNatClampNeg (0 : Int32)) (fun (s11 : bi_St) => at_X12_readsView_116 X (d + 1) K E s11 (y1)) (fun _ _ => False))))) ∧ (¬ (¬ r10 = (16 : Int32)) → bi_in (y1 + (1 : Int32)) 18 = true ∧ (bi_in (y1 + (1 : Int32)) 18 = true ∧ (((¬ (st_g (st_p s10 86 ((y1 + (1 : Int32))).toNatClampNeg (1 : Int32)) 86 ((y1 + (1 : Int32))).toNatClampNeg) = (1 : Int32)) → at_X12_readsView_116 X (d + 1) K E (st_p s10 86 ((y1 + (1 : Int32))).toNatClampNeg (1 : Int32)) (y1)) ∧ (¬ (¬ (st_g (st_p s10 86 ((y1 + (1 : Int32))).toNatClampNeg (1 : Int32)) 86 ((y1 + (1 : Int32))).toNatClampNeg) = (1 : Int32)) → cV X d 172 [.ref 77] (st_p s10 86 ((y1 + (1 : Int32))).toNatClampNeg (1 : Int32)) (fun (s12 : bi_St) => at_X12_readsView_116 X (d + 1) K E s12 (y1)) (fun _ _ => False)))))) (fun _ _ => False)) ∧ (¬ (¬ r9 = 0) → K s9)) (fun _ _ => False)) : at_X12_readsView_70 X (d + 1) K E s y1 := by
  show bi_T _ _ _ _ _
  refine bi_Tr 1 (s' := (71, [(0, .ref 77), (1, .int y1)], [.ref 77], st_mm s)) rfl ?_
  refine bi_TcI (as := [.ref 77]) rfl rfl ?_
  refine cI.mono h (fun r9 s9 h => ?_) (fun _ _ h => h.elim)
  refine bi_Tr 1 (s' := ((if ¬ r9 = 0 then 78 else 77), [(0, .ref 77), (1, .int y1)], [], st_mm s9)) rfl (bi_Tif (fun hc => ?_) (fun hc => ?_))
  · have h := h.1 hc
    refine bi_Tr 6 (s' := (86, [(0, .ref 77), (1, .int y1)], [.ref 77, .int (y1 + (1 : Int32)), .ref 86], st_mm s9)) rfl ?_
    refine bi_TcI (as := [.ref 77]) rfl rfl ?_
    refine cI.mono h (fun r10 s10 h => ?_) (fun _ _ h => h.elim)
    refine bi_Tr 2 (s' := ((if ¬ r10 = (16 : Int32) then 98 else 94), [(0, .ref 77), (1, .int y1)], [.int (y1 + (1 : Int32)), .ref 86], st_mm s10)) rfl (bi_Tif (fun hc => ?_) (fun hc => ?_))
    · have h := h.1 hc
      refine bi_Tr 1 (s' := (99, [(0, .ref 77), (1, .int y1)], [.int (0 : Int32), .int (y1 + (1 : Int32)), .ref 86], st_mm s10)) rfl ?_
      obtain ⟨hi, h⟩ := h
      refine bi_Tias rfl rfl hi ?_
      refine bi_Tr 5 (s' := (107, [(0, .ref 77), (1, .int y1)], [.int (y1 + (1 : Int32)), .ref 86], st_mm (st_p s10 86 ((y1 + (1 : Int32))).toNatClampNeg (0 : Int32)))) rfl ?_
      obtain ⟨hi, h⟩ := h
      refine bi_Tial rfl rfl rfl hi ?_
      refine bi_Tr 2 (s' := ((if ¬ (st_g (st_p s10 86 ((y1 + (1 : Int32))).toNatClampNeg (0 : Int32)) 86 ((y1 + (1 : Int32))).toNatClampNeg) = (1 : Int32) then 116 else 112), [(0, .ref 77), (1, .int y1)], [], st_mm (st_p s10 86 ((y1 + (1 : Int32))).toNatClampNeg (0 : Int32)))) rfl (bi_Tif (fun hc => ?_) (fun hc => ?_))
      · have h := h.1 hc
        exact bi_Tww h rfl rfl ⟨rfl, rfl, trivial⟩
      · have h := h.2 hc
        refine bi_Tr 1 (s' := (113, [(0, .ref 77), (1, .int y1)], [.ref 77], st_mm (st_p s10 86 ((y1 + (1 : Int32))).toNatClampNeg (0 : Int32)))) rfl ?_
        refine bi_TcV (as := [.ref 77]) rfl rfl ?_
        refine cV.mono h (fun s11 h => ?_) (fun _ _ h => h.elim)
        exact bi_Tww h rfl rfl ⟨rfl, rfl, trivial⟩
    · have h := h.2 hc
      refine bi_Tr 2 (s' := (99, [(0, .ref 77), (1, .int y1)], [.int (1 : Int32), .int (y1 + (1 : Int32)), .ref 86], st_mm s10)) rfl ?_
      obtain ⟨hi, h⟩ := h
      refine bi_Tias rfl rfl hi ?_
      refine bi_Tr 5 (s' := (107, [(0, .ref 77), (1, .int y1)], [.int (y1 + (1 : Int32)), .ref 86], st_mm (st_p s10 86 ((y1 + (1 : Int32))).toNatClampNeg (1 : Int32)))) rfl ?_
      obtain ⟨hi, h⟩ := h
      refine bi_Tial rfl rfl rfl hi ?_
      refine bi_Tr 2 (s' := ((if ¬ (st_g (st_p s10 86 ((y1 + (1 : Int32))).toNatClampNeg (1 : Int32)) 86 ((y1 + (1 : Int32))).toNatClampNeg) = (1 : Int32) then 116 else 112), [(0, .ref 77), (1, .int y1)], [], st_mm (st_p s10 86 ((y1 + (1 : Int32))).toNatClampNeg (1 : Int32)))) rfl (bi_Tif (fun hc => ?_) (fun hc => ?_))
      · have h := h.1 hc
        exact bi_Tww h rfl rfl ⟨rfl, rfl, trivial⟩
      · have h := h.2 hc
        refine bi_Tr 1 (s' := (113, [(0, .ref 77), (1, .int y1)], [.ref 77], st_mm (st_p s10 86 ((y1 + (1 : Int32))).toNatClampNeg (1 : Int32)))) rfl ?_
        refine bi_TcV (as := [.ref 77]) rfl rfl ?_
        refine cV.mono h (fun s12 h => ?_) (fun _ _ h => h.elim)
        exact bi_Tww h rfl rfl ⟨rfl, rfl, trivial⟩
  · have h := h.2 hc
    exact bi_Tv rfl rfl (Or.inl ⟨_, rfl, h⟩)
theorem go_X12_readsView_116 {X : bi_X} {d : Nat} {K : bi_St → Prop} {E : Nat → bi_St → Prop}  {s : bi_St} {y1 : Int32}  (h : bi_in (y1 + (2 : Int32)) 18 = true ∧ (cI X d 175 [.ref 77] (st_p s 86 ((y1 + (2 : Int32))).toNatClampNeg (-1 : Int32)) (fun (r13 : Int32) (s13 : bi_St) => ((¬ r13 = (17 : Int32)) → at_X12_readsView_165 X (d + 1) K E s13 (y1)) ∧ (¬ (¬ r13 = (17 : Int32)) → cV X d 172 [.ref 77] s13 (fun (s14 : bi_St) => cI X d 181 [.ref 77, .int (st_g s14 77 18)] s14 (fun (r15 : Int32) (s15 : bi_St) => bi_in (y1 + (2 : Int32)) 18 = true ∧ (cI X d 177 [.ref 77] (st_p s15 86 ((y1 + (2 : Int32))).toNatClampNeg r15) (fun (r16 : Int32) (s16 : bi_St) => ((r16 = 0) → at_X12_readsView_165 X (d + 1) K E s16 (y1)) ∧ (¬ (r16 = 0) → cV X d 172 [.ref 77] s16 (fun (s17 : bi_St) => at_X12_readsView_165 X (d + 1) K E s17 (y1)) (fun _ _ => False))) (fun _ _ => False))) (fun _ _ => False)) (fun _ _ => False))) (fun _ _ => False))) : at_X12_readsView_116 X (d + 1) K E s y1 := by
  show bi_T _ _ _ _ _
  refine bi_Tr 6 (s' := (124, [(0, .ref 77), (1, .int y1)], [.int (-1 : Int32), .int (y1 + (2 : Int32)), .ref 86], st_mm s)) rfl ?_
  obtain ⟨hi, h⟩ := h
  refine bi_Tias rfl rfl hi ?_
  refine bi_Tr 1 (s' := (126, [(0, .ref 77), (1, .int y1)], [.ref 77], st_mm (st_p s 86 ((y1 + (2 : Int32))).toNatClampNeg (-1 : Int32)))) rfl ?_
  refine bi_TcI (as := [.ref 77]) rfl rfl ?_
  refine cI.mono h (fun r13 s13 h => ?_) (fun _ _ h => h.elim)
  refine bi_Tr 2 (s' := ((if ¬ r13 = (17 : Int32) then 165 else 134), [(0, .ref 77), (1, .int y1)], [], st_mm s13)) rfl (bi_Tif (fun hc => ?_) (fun hc => ?_))
  · have h := h.1 hc
    exact bi_Tww h rfl rfl ⟨rfl, rfl, trivial⟩
  · have h := h.2 hc
    refine bi_Tr 1 (s' := (135, [(0, .ref 77), (1, .int y1)], [.ref 77], st_mm s13)) rfl ?_
    refine bi_TcV (as := [.ref 77]) rfl rfl ?_
    refine cV.mono h (fun s14 h => ?_) (fun _ _ h => h.elim)
    refine bi_Tr 8 (s' := (150, [(0, .ref 77), (1, .int y1)], [.int (st_g s14 77 18), .ref 77, .int (y1 + (2 : Int32)), .ref 86], st_mm s14)) rfl ?_
    refine bi_TcI (as := [.ref 77, .int (st_g s14 77 18)]) rfl rfl ?_
    refine cI.mono h (fun r15 s15 h => ?_) (fun _ _ h => h.elim)
    obtain ⟨hi, h⟩ := h
    refine bi_Tias rfl rfl hi ?_
    refine bi_Tr 1 (s' := (155, [(0, .ref 77), (1, .int y1)], [.ref 77], st_mm (st_p s15 86 ((y1 + (2 : Int32))).toNatClampNeg r15))) rfl ?_
    refine bi_TcI (as := [.ref 77]) rfl rfl ?_
    refine cI.mono h (fun r16 s16 h => ?_) (fun _ _ h => h.elim)
    refine bi_Tr 1 (s' := ((if r16 = 0 then 165 else 161), [(0, .ref 77), (1, .int y1)], [], st_mm s16)) rfl (bi_Tif (fun hc => ?_) (fun hc => ?_))
    · have h := h.1 hc
      exact bi_Tww h rfl rfl ⟨rfl, rfl, trivial⟩
    · have h := h.2 hc
      refine bi_Tr 1 (s' := (162, [(0, .ref 77), (1, .int y1)], [.ref 77], st_mm s16)) rfl ?_
      refine bi_TcV (as := [.ref 77]) rfl rfl ?_
      refine cV.mono h (fun s17 h => ?_) (fun _ _ h => h.elim)
      exact bi_Tww h rfl rfl ⟨rfl, rfl, trivial⟩
theorem go_X12_readsView_165 {X : bi_X} {d : Nat} {K : bi_St → Prop} {E : Nat → bi_St → Prop}  {s : bi_St} {y1 : Int32}  (h : cI X d 175 [.ref 77] s (fun (r18 : Int32) (s18 : bi_St) => ((¬ r18 = (18 : Int32)) → cV X d 179 [.ref 77, .int (0 : Int32)] s18 (fun (s19 : bi_St) => bi_in (y1 + (3 : Int32)) 18 = true ∧ (cV X d 194 [.ref 77] (st_p s19 86 ((y1 + (3 : Int32))).toNatClampNeg (st_g s19 77 19)) (fun (s20 : bi_St) => bi_in (y1 + (4 : Int32)) 18 = true ∧ ((((st_g (st_p s20 86 ((y1 + (4 : Int32))).toNatClampNeg (st_g s20 77 22)) 77 23) = 0) → bi_in (y1 + (5 : Int32)) 18 = true ∧ (cI X d 177 [.ref 77] (st_p (st_p s20 86 ((y1 + (4 : Int32))).toNatClampNeg (st_g s20 77 22)) 86 ((y1 + (5 : Int32))).toNatClampNeg (0 : Int32)) (fun (r21 : Int32) (s21 : bi_St) => ((r21 = 0) → at_X12_readsView_248 X (d + 1) K E s21) ∧ (¬ (r21 = 0) → at_X12_readsView_248 X (d + 1) K E (st_p s21 77 18 ((st_g s21 77 18) + (1 : Int32))))) (fun _ _ => False))) ∧ (¬ ((st_g (st_p s20 86 ((y1 + (4 : Int32))).toNatClampNeg (st_g s20 77 22)) 77 23) = 0) → bi_in (y1 + (5 : Int32)) 18 = true ∧ (cI X d 177 [.ref 77] (st_p (st_p s20 86 ((y1 + (4 : Int32))).toNatClampNeg (st_g s20 77 22)) 86 ((y1 + (5 : Int32))).toNatClampNeg (1 : Int32)) (fun (r22 : Int32) (s22 : bi_St) => ((r22 = 0) → at_X12_readsView_248 X (d + 1) K E s22) ∧ (¬ (r22 = 0) → at_X12_readsView_248 X (d + 1) K E (st_p s22 77 18 ((st_g s22 77 18) + (1 : Int32))))) (fun _ _ => False))))) (fun _ _ => False))) (fun _ _ => False)) ∧ (¬ (¬ r18 = (18 : Int32)) → cV X d 179 [.ref 77, .int (1 : Int32)] s18 (fun (s23 : bi_St) => bi_in (y1 + (3 : Int32)) 18 = true ∧ (cV X d 194 [.ref 77] (st_p s23 86 ((y1 + (3 : Int32))).toNatClampNeg (st_g s23 77 19)) (fun (s24 : bi_St) => bi_in (y1 + (4 : Int32)) 18 = true ∧ ((((st_g (st_p s24 86 ((y1 + (4 : Int32))).toNatClampNeg (st_g s24 77 22)) 77 23) = 0) → bi_in (y1 + (5 : Int32)) 18 = true ∧ (cI X d 177 [.ref 77] (st_p (st_p s24 86 ((y1 + (4 : Int32))).toNatClampNeg (st_g s24 77 22)) 86 ((y1 + (5 : Int32))).toNatClampNeg (0 : Int32)) (fun (r25 : Int32) (s25 : bi_St) => ((r25 = 0) → at_X12_readsView_248 X (d + 1) K E s25) ∧ (¬ (r25 = 0) → at_X12_readsView_248 X (d + 1) K E (st_p s25 77 18 ((st_g s25 77 18) + (1 : Int32))))) (fun _ _ => False))) ∧ (¬ ((st_g (st_p s24 86 ((y1 + (4 : Int32))).toNatClampNeg (st_g s24 77 22)) 77 23) = 0) → bi_in (y1 + (5 : Int32)) 18 = true ∧ (cI X d 177 [.ref 77] (st_p (st_p s24 86 ((y1 + (4 : Int32))).toNatClampNeg (st_g s24 77 22)) 86 ((y1 + (5 : Int32))).toNatClampNeg (1 : Int32)) (fun (r26 : Int32) (s26 : bi_St) => ((r26 = 0) → at_X12_readsView_248 X (d + 1) K E s26) ∧ (¬ (r26 = 0) → at_X12_readsView_248 X (d + 1) K E (st_p s26 77 18 ((st_g s26 77 18) + (1 : Int32))))) (fun _ _ => False))))) (fun _ _ => False))) (fun _ _ => False))) (fun _ _ => False)) : at_X12_readsView_165 X (d + 1) K E s y1 := by
  show bi_T _ _ _ _ _
  refine bi_Tr 2 (s' := (167, [(0, .ref 77), (1, .int y1)], [.ref 77, .ref 77], st_mm s)) rfl ?_
  refine bi_TcI (as := [.ref 77]) rfl rfl ?_
  refine cI.mono h (fun r18 s18 h => ?_) (fun _ _ h => h.elim)
  refine bi_Tr 2 (s' := ((if ¬ r18 = (18 : Int32) then 179 else 175), [(0, .ref 77), (1, .int y1)], [.ref 77], st_mm s18)) rfl (bi_Tif (fun hc => ?_) (fun hc => ?_))
  · have h := h.1 hc
    refine bi_Tr 1 (s' := (180, [(0, .ref 77), (1, .int y1)], [.int (0 : Int32), .ref 77], st_mm s18)) rfl ?_
    refine bi_TcV (as := [.ref 77, .int (0 : Int32)]) rfl rfl ?_
    refine cV.mono h (fun s19 h => ?_) (fun _ _ h => h.elim)
    refine bi_Tr 7 (s' := (194, [(0, .ref 77), (1, .int y1)], [.int (st_g s19 77 19), .int (y1 + (3 : Int32)), .ref 86], st_mm s19)) rfl ?_
    obtain ⟨hi, h⟩ := h
    refine bi_Tias rfl rfl hi ?_
    refine bi_Tr 1 (s' := (196, [(0, .ref 77), (1, .int y1)], [.ref 77], st_mm (st_p s19 86 ((y1 + (3 : Int32))).toNatClampNeg (st_g s19 77 19)))) rfl ?_
    refine bi_TcV (as := [.ref 77]) rfl rfl ?_
    refine cV.mono h (fun s20 h => ?_) (fun _ _ h => h.elim)
    refine bi_Tr 7 (s' := (210, [(0, .ref 77), (1, .int y1)], [.int (st_g s20 77 22), .int (y1 + (4 : Int32)), .ref 86], st_mm s20)) rfl ?_
    obtain ⟨hi, h⟩ := h
    refine bi_Tias rfl rfl hi ?_
    refine bi_Tr 8 (s' := ((if (st_g (st_p s20 86 ((y1 + (4 : Int32))).toNatClampNeg (st_g s20 77 22)) 77 23) = 0 then 229 else 225), [(0, .ref 77), (1, .int y1)], [.int (y1 + (5 : Int32)), .ref 86], st_mm (st_p s20 86 ((y1 + (4 : Int32))).toNatClampNeg (st_g s20 77 22)))) rfl (bi_Tif (fun hc => ?_) (fun hc => ?_))
    · have h := h.1 hc
      refine bi_Tr 1 (s' := (230, [(0, .ref 77), (1, .int y1)], [.int (0 : Int32), .int (y1 + (5 : Int32)), .ref 86], st_mm (st_p s20 86 ((y1 + (4 : Int32))).toNatClampNeg (st_g s20 77 22)))) rfl ?_
      obtain ⟨hi, h⟩ := h
      refine bi_Tias rfl rfl hi ?_
      refine bi_Tr 1 (s' := (232, [(0, .ref 77), (1, .int y1)], [.ref 77], st_mm (st_p (st_p s20 86 ((y1 + (4 : Int32))).toNatClampNeg (st_g s20 77 22)) 86 ((y1 + (5 : Int32))).toNatClampNeg (0 : Int32)))) rfl ?_
      refine bi_TcI (as := [.ref 77]) rfl rfl ?_
      refine cI.mono h (fun r21 s21 h => ?_) (fun _ _ h => h.elim)
      refine bi_Tr 1 (s' := ((if r21 = 0 then 248 else 238), [(0, .ref 77), (1, .int y1)], [], st_mm s21)) rfl (bi_Tif (fun hc => ?_) (fun hc => ?_))
      · have h := h.1 hc
        exact bi_Tww h rfl rfl trivial
      · have h := h.2 hc
        refine bi_Tr 6 (s' := (248, [(0, .ref 77), (1, .int y1)], [], st_mm (st_p s21 77 18 ((st_g s21 77 18) + (1 : Int32))))) rfl ?_
        exact bi_Tww h rfl rfl trivial
    · have h := h.2 hc
      refine bi_Tr 2 (s' := (230, [(0, .ref 77), (1, .int y1)], [.int (1 : Int32), .int (y1 + (5 : Int32)), .ref 86], st_mm (st_p s20 86 ((y1 + (4 : Int32))).toNatClampNeg (st_g s20 77 22)))) rfl ?_
      obtain ⟨hi, h⟩ := h
      refine bi_Tias rfl rfl hi ?_
      refine bi_Tr 1 (s' := (232, [(0, .ref 77), (1, .int y1)], [.ref 77], st_mm (st_p (st_p s20 86 ((y1 + (4 : Int32))).toNatClampNeg (st_g s20 77 22)) 86 ((y1 + (5 : Int32))).toNatClampNeg (1 : Int32)))) rfl ?_
      refine bi_TcI (as := [.ref 77]) rfl rfl ?_
      refine cI.mono h (fun r22 s22 h => ?_) (fun _ _ h => h.elim)
      refine bi_Tr 1 (s' := ((if r22 = 0 then 248 else 238), [(0, .ref 77), (1, .int y1)], [], st_mm s22)) rfl (bi_Tif (fun hc => ?_) (fun hc => ?_))
      · have h := h.1 hc
        exact bi_Tww h rfl rfl trivial
      · have h := h.2 hc
        refine bi_Tr 6 (s' := (248, [(0, .ref 77), (1, .int y1)], [], st_mm (st_p s22 77 18 ((st_g s22 77 18) + (1 : Int32))))) rfl ?_
        exact bi_Tww h rfl rfl trivial
  · have h := h.2 hc
    refine bi_Tr 2 (s' := (180, [(0, .ref 77), (1, .int y1)], [.int (1 : Int32), .ref 77], st_mm s18)) rfl ?_
    refine bi_TcV (as := [.ref 77, .int (1 : Int32)]) rfl rfl ?_
    refine cV.mono h (fun s23 h => ?_) (fun _ _ h => h.elim)
    refine bi_Tr 7 (s' := (194, [(0, .ref 77), (1, .int y1)], [.int (st_g s23 77 19), .int (y1 + (3 : Int32)), .ref 86], st_mm s23)) rfl ?_
    obtain ⟨hi, h⟩ := h
    refine bi_Tias rfl rfl hi ?_
    refine bi_Tr 1 (s' := (196, [(0, .ref 77), (1, .int y1)], [.ref 77], st_mm (st_p s23 86 ((y1 + (3 : Int32))).toNatClampNeg (st_g s23 77 19)))) rfl ?_
    refine bi_TcV (as := [.ref 77]) rfl rfl ?_
    refine cV.mono h (fun s24 h => ?_) (fun _ _ h => h.elim)
    refine bi_Tr 7 (s' := (210, [(0, .ref 77), (1, .int y1)], [.int (st_g s24 77 22), .int (y1 + (4 : Int32)), .ref 86], st_mm s24)) rfl ?_
    obtain ⟨hi, h⟩ := h
    refine bi_Tias rfl rfl hi ?_
    refine bi_Tr 8 (s' := ((if (st_g (st_p s24 86 ((y1 + (4 : Int32))).toNatClampNeg (st_g s24 77 22)) 77 23) = 0 then 229 else 225), [(0, .ref 77), (1, .int y1)], [.int (y1 + (5 : Int32)), .ref 86], st_mm (st_p s24 86 ((y1 + (4 : Int32))).toNatClampNeg (st_g s24 77 22)))) rfl (bi_Tif (fun hc => ?_) (fun hc => ?_))
    · have h := h.1 hc
      refine bi_Tr 1 (s' := (230, [(0, .ref 77), (1, .int y1)], [.int (0 : Int32), .int (y1 + (5 : Int32)), .ref 86], st_mm (st_p s24 86 ((y1 + (4 : Int32))).toNatClampNeg (st_g s24 77 22)))) rfl ?_
      obtain ⟨hi, h⟩ := h
      refine bi_Tias rfl rfl hi ?_
      refine bi_Tr 1 (s' := (232, [(0, .ref 77), (1, .int y1)], [.ref 77], st_mm (st_p (st_p s24 86 ((y1 + (4 : Int32))).toNatClampNeg (st_g s24 77 22)) 86 ((y1 + (5 : Int32))).toNatClampNeg (0 : Int32)))) rfl ?_
      refine bi_TcI (as := [.ref 77]) rfl rfl ?_
      refine cI.mono h (fun r25 s25 h => ?_) (fun _ _ h => h.elim)
      refine bi_Tr 1 (s' := ((if r25 = 0 then 248 else 238), [(0, .ref 77), (1, .int y1)], [], st_mm s25)) rfl (bi_Tif (fun hc => ?_) (fun hc => ?_))
      · have h := h.1 hc
        exact bi_Tww h rfl rfl trivial
      · have h := h.2 hc
        refine bi_Tr 6 (s' := (248, [(0, .ref 77), (1, .int y1)], [], st_mm (st_p s25 77 18 ((st_g s25 77 18) + (1 : Int32))))) rfl ?_
        exact bi_Tww h rfl rfl trivial
    · have h := h.2 hc
      refine bi_Tr 2 (s' := (230, [(0, .ref 77), (1, .int y1)], [.int (1 : Int32), .int (y1 + (5 : Int32)), .ref 86], st_mm (st_p s24 86 ((y1 + (4 : Int32))).toNatClampNeg (st_g s24 77 22)))) rfl ?_
      obtain ⟨hi, h⟩ := h
      refine bi_Tias rfl rfl hi ?_
      refine bi_Tr 1 (s' := (232, [(0, .ref 77), (1, .int y1)], [.ref 77], st_mm (st_p (st_p s24 86 ((y1 + (4 : Int32))).toNatClampNeg (st_g s24 77 22)) 86 ((y1 + (5 : Int32))).toNatClampNeg (1 : Int32)))) rfl ?_
      refine bi_TcI (as := [.ref 77]) rfl rfl ?_
      refine cI.mono h (fun r26 s26 h => ?_) (fun _ _ h => h.elim)
      refine bi_Tr 1 (s' := ((if r26 = 0 then 248 else 238), [(0, .ref 77), (1, .int y1)], [], st_mm s26)) rfl (bi_Tif (fun hc => ?_) (fun hc => ?_))
      · have h := h.1 hc
        exact bi_Tww h rfl rfl trivial
      · have h := h.2 hc
        refine bi_Tr 6 (s' := (248, [(0, .ref 77), (1, .int y1)], [], st_mm (st_p s26 77 18 ((st_g s26 77 18) + (1 : Int32))))) rfl ?_
        exact bi_Tww h rfl rfl trivial
theorem go_X12_readsView_248 {X : bi_X} {d : Nat} {K : bi_St → Prop} {E : Nat → bi_St → Prop}  {s : bi_St}   (h : K s) : at_X12_readsView_248 X (d + 1) K E s  := by
  show bi_T _ _ _ _ _
  exact bi_Tv rfl rfl (Or.inl ⟨_, rfl, h⟩)
/-- PolicyRowsModel.readsView()V -/
theorem en_X12_readsView {X : bi_X} {d : Nat} {K : bi_St → Prop} {E : Nat → bi_St → Prop} {s : bi_St}   (h : bi_in ((6 : Int32) * (st_g s 77 18)) 18 = true ∧ (cI X d 175 [.ref 77] (st_p s 86 (((6 : Int32) * (st_g s 77 18))).toNatClampNeg (-1 : Int32)) (fun (r1 : Int32) (s1 : bi_St) => ((¬ r1 = (15 : Int32)) → cI X d 175 [.ref 77] s1 (fun (r2 : Int32) (s2 : bi_St) => ((¬ r2 = (14 : Int32)) → cV X d 179 [.ref 77, .int (0 : Int32)] s2 (fun (s3 : bi_St) => at_X12_readsView_70 X (d + 1) K E s3 (((6 : Int32) * (st_g s 77 18)))) (fun _ _ => False)) ∧ (¬ (¬ r2 = (14 : Int32)) → cV X d 179 [.ref 77, .int (1 : Int32)] s2 (fun (s4 : bi_St) => at_X12_readsView_70 X (d + 1) K E s4 (((6 : Int32) * (st_g s 77 18)))) (fun _ _ => False))) (fun _ _ => False)) ∧ (¬ (¬ r1 = (15 : Int32)) → cV X d 172 [.ref 77] s1 (fun (s5 : bi_St) => cI X d 182 [.ref 77] s5 (fun (r6 : Int32) (s6 : bi_St) => bi_in ((6 : Int32) * (st_g s 77 18)) 18 = true ∧ (cI X d 177 [.ref 77] (st_p s6 86 (((6 : Int32) * (st_g s 77 18))).toNatClampNeg r6) (fun (r7 : Int32) (s7 : bi_St) => ((r7 = 0) → at_X12_readsView_70 X (d + 1) K E s7 (((6 : Int32) * (st_g s 77 18)))) ∧ (¬ (r7 = 0) → cV X d 172 [.ref 77] s7 (fun (s8 : bi_St) => at_X12_readsView_70 X (d + 1) K E s8 (((6 : Int32) * (st_g s 77 18)))) (fun _ _ => False))) (fun _ _ => False))) (fun _ _ => False)) (fun _ _ => False))) (fun _ _ => False))) : cV X (d + 1) 199 [.ref 77] s K E := by
  show bi_T _ _ _ _ _
  refine bi_Tr 9 (s' := (14, [(1, .int ((6 : Int32) * (st_g s 77 18))), (0, .ref 77)], [.int (-1 : Int32), .int ((6 : Int32) * (st_g s 77 18)), .ref 86], st_mm s)) rfl ?_
  obtain ⟨hi, h⟩ := h
  refine bi_Tias rfl rfl hi ?_
  refine bi_Tr 1 (s' := (16, [(1, .int ((6 : Int32) * (st_g s 77 18))), (0, .ref 77)], [.ref 77], st_mm (st_p s 86 (((6 : Int32) * (st_g s 77 18))).toNatClampNeg (-1 : Int32)))) rfl ?_
  refine bi_TcI (as := [.ref 77]) rfl rfl ?_
  refine cI.mono h (fun r1 s1 h => ?_) (fun _ _ h => h.elim)
  refine bi_Tr 2 (s' := ((if ¬ r1 = (15 : Int32) then 52 else 24), [(1, .int ((6 : Int32) * (st_g s 77 18))), (0, .ref 77)], [], st_mm s1)) rfl (bi_Tif (fun hc => ?_) (fun hc => ?_))
  · have h := h.1 hc
    refine bi_Tr 2 (s' := (54, [(1, .int ((6 : Int32) * (st_g s 77 18))), (0, .ref 77)], [.ref 77, .ref 77], st_mm s1)) rfl ?_
    refine bi_TcI (as := [.ref 77]) rfl rfl ?_
    refine cI.mono h (fun r2 s2 h => ?_) (fun _ _ h => h.elim)
    refine bi_Tr 2 (s' := ((if ¬ r2 = (14 : Int32) then 66 else 62), [(1, .int ((6 : Int32) * (st_g s 77 18))), (0, .ref 77)], [.ref 77], st_mm s2)) rfl (bi_Tif (fun hc => ?_) (fun hc => ?_))
    · have h := h.1 hc
      refine bi_Tr 1 (s' := (67, [(1, .int ((6 : Int32) * (st_g s 77 18))), (0, .ref 77)], [.int (0 : Int32), .ref 77], st_mm s2)) rfl ?_
      refine bi_TcV (as := [.ref 77, .int (0 : Int32)]) rfl rfl ?_
      refine cV.mono h (fun s3 h => ?_) (fun _ _ h => h.elim)
      exact bi_Tww h rfl rfl ⟨rfl, rfl, trivial⟩
    · have h := h.2 hc
      refine bi_Tr 2 (s' := (67, [(1, .int ((6 : Int32) * (st_g s 77 18))), (0, .ref 77)], [.int (1 : Int32), .ref 77], st_mm s2)) rfl ?_
      refine bi_TcV (as := [.ref 77, .int (1 : Int32)]) rfl rfl ?_
      refine cV.mono h (fun s4 h => ?_) (fun _ _ h => h.elim)
      exact bi_Tww h rfl rfl ⟨rfl, rfl, trivial⟩
  · have h := h.2 hc
    refine bi_Tr 1 (s' := (25, [(1, .int ((6 : Int32) * (st_g s 77 18))), (0, .ref 77)], [.ref 77], st_mm s1)) rfl ?_
    refine bi_TcV (as := [.ref 77]) rfl rfl ?_
    refine cV.mono h (fun s5 h => ?_) (fun _ _ h => h.elim)
    refine bi_Tr 4 (s' := (34, [(1, .int ((6 : Int32) * (st_g s 77 18))), (0, .ref 77)], [.ref 77, .int ((6 : Int32) * (st_g s 77 18)), .ref 86], st_mm s5)) rfl ?_
    refine bi_TcI (as := [.ref 77]) rfl rfl ?_
    refine cI.mono h (fun r6 s6 h => ?_) (fun _ _ h => h.elim)
    obtain ⟨hi, h⟩ := h
    refine bi_Tias rfl rfl hi ?_
    refine bi_Tr 1 (s' := (39, [(1, .int ((6 : Int32) * (st_g s 77 18))), (0, .ref 77)], [.ref 77], st_mm (st_p s6 86 (((6 : Int32) * (st_g s 77 18))).toNatClampNeg r6))) rfl ?_
    refine bi_TcI (as := [.ref 77]) rfl rfl ?_
    refine cI.mono h (fun r7 s7 h => ?_) (fun _ _ h => h.elim)
    refine bi_Tr 1 (s' := ((if r7 = 0 then 70 else 45), [(1, .int ((6 : Int32) * (st_g s 77 18))), (0, .ref 77)], [], st_mm s7)) rfl (bi_Tif (fun hc => ?_) (fun hc => ?_))
    · have h := h.1 hc
      exact bi_Tww h rfl rfl ⟨rfl, rfl, trivial⟩
    · have h := h.2 hc
      refine bi_Tr 1 (s' := (46, [(1, .int ((6 : Int32) * (st_g s 77 18))), (0, .ref 77)], [.ref 77], st_mm s7)) rfl ?_
      refine bi_TcV (as := [.ref 77]) rfl rfl ?_
      refine cV.mono h (fun s8 h => ?_) (fun _ _ h => h.elim)
      refine bi_Tr 1 (s' := (70, [(1, .int ((6 : Int32) * (st_g s 77 18))), (0, .ref 77)], [], st_mm s8)) rfl ?_
      exact bi_Tww h rfl rfl ⟨rfl, rfl, trivial⟩
def at_X12_line_85 (X : bi_X) (d : Nat) (K : bi_St → Prop) (E : Nat → bi_St → Prop) (s : bi_St) (y1 : Int32) : Prop := bi_T X d 200 (85, [(0, .ref 77), (1, .int y1)], [], st_mm s) (st_RV K E)
def at_X12_line_155 (X : bi_X) (d : Nat) (K : bi_St → Prop) (E : Nat → bi_St → Prop) (s : bi_St)  : Prop := bi_T X d 200 (155, [(0, .ref 77)], [], st_mm s) (st_RV K E)
theorem go_X12_line_85 {X : bi_X} {d : Nat} {K : bi_St → Prop} {E : Nat → bi_St → Prop}  {s : bi_St} {y1 : Int32}  (h : ((¬ (st_g s 77 17) = (8 : Int32)) → cI X d 195 [.ref 77, .int (0 : Int32)] s (fun (r15 : Int32) (s15 : bi_St) => ((r15 = 0) → at_X12_line_155 X (d + 1) K E s15) ∧ (¬ (r15 = 0) → cV X d 198 [.ref 77, .int (y1 - (8 : Int32))] s15 (fun (s16 : bi_St) => at_X12_line_155 X (d + 1) K E s16) (fun _ _ => False))) (fun _ _ => False)) ∧ (¬ (¬ (st_g s 77 17) = (8 : Int32)) → cI X d 195 [.ref 77, .int (1 : Int32)] s (fun (r17 : Int32) (s17 : bi_St) => ((r17 = 0) → at_X12_line_155 X (d + 1) K E s17) ∧ (¬ (r17 = 0) → cV X d 198 [.ref 77, .int (y1 - (8 : Int32))] s17 (fun (s18 : bi_St) => at_X12_line_155 X (d + 1) K E s18) (fun _ _ => False))) (fun _ _ => False))) : at_X12_line_85 X (d + 1) K E s y1 := by
  show bi_T _ _ _ _ _
  refine bi_Tr 5 (s' := ((if ¬ (st_g s 77 17) = (8 : Int32) then 99 else 95), [(0, .ref 77), (1, .int y1)], [.ref 77], st_mm s)) rfl (bi_Tif (fun hc => ?_) (fun hc => ?_))
  · have h := h.1 hc
    refine bi_Tr 1 (s' := (100, [(0, .ref 77), (1, .int y1)], [.int (0 : Int32), .ref 77], st_mm s)) rfl ?_
    refine bi_TcI (as := [.ref 77, .int (0 : Int32)]) rfl rfl ?_
    refine cI.mono h (fun r15 s15 h => ?_) (fun _ _ h => h.elim)
    refine bi_Tr 1 (s' := ((if r15 = 0 then 155 else 106), [(0, .ref 77), (1, .int y1)], [], st_mm s15)) rfl (bi_Tif (fun hc => ?_) (fun hc => ?_))
    · have h := h.1 hc
      exact bi_Tww h rfl rfl ⟨rfl, trivial⟩
    · have h := h.2 hc
      refine bi_Tr 4 (s' := (111, [(0, .ref 77), (1, .int y1)], [.int (y1 - (8 : Int32)), .ref 77], st_mm s15)) rfl ?_
      refine bi_TcV (as := [.ref 77, .int (y1 - (8 : Int32))]) rfl rfl ?_
      refine cV.mono h (fun s16 h => ?_) (fun _ _ h => h.elim)
      refine bi_Tr 1 (s' := (155, [(0, .ref 77), (1, .int y1)], [], st_mm s16)) rfl ?_
      exact bi_Tww h rfl rfl ⟨rfl, trivial⟩
  · have h := h.2 hc
    refine bi_Tr 2 (s' := (100, [(0, .ref 77), (1, .int y1)], [.int (1 : Int32), .ref 77], st_mm s)) rfl ?_
    refine bi_TcI (as := [.ref 77, .int (1 : Int32)]) rfl rfl ?_
    refine cI.mono h (fun r17 s17 h => ?_) (fun _ _ h => h.elim)
    refine bi_Tr 1 (s' := ((if r17 = 0 then 155 else 106), [(0, .ref 77), (1, .int y1)], [], st_mm s17)) rfl (bi_Tif (fun hc => ?_) (fun hc => ?_))
    · have h := h.1 hc
      exact bi_Tww h rfl rfl ⟨rfl, trivial⟩
    · have h := h.2 hc
      refine bi_Tr 4 (s' := (111, [(0, .ref 77), (1, .int y1)], [.int (y1 - (8 : Int32)), .ref 77], st_mm s17)) rfl ?_
      refine bi_TcV (as := [.ref 77, .int (y1 - (8 : Int32))]) rfl rfl ?_
      refine cV.mono h (fun s18 h => ?_) (fun _ _ h => h.elim)
      refine bi_Tr 1 (s' := (155, [(0, .ref 77), (1, .int y1)], [], st_mm s18)) rfl ?_
      exact bi_Tww h rfl rfl ⟨rfl, trivial⟩
theorem go_X12_line_155 {X : bi_X} {d : Nat} {K : bi_St → Prop} {E : Nat → bi_St → Prop}  {s : bi_St}   (h : cI X d 178 [.ref 77, .int (59 : Int32)] s (fun (r19 : Int32) (s19 : bi_St) => cV X d 179 [.ref 77, .int r19] s19 (fun (s20 : bi_St) => K s20) (fun _ _ => False)) (fun _ _ => False)) : at_X12_line_155 X (d + 1) K E s  := by
  show bi_T _ _ _ _ _
  refine bi_Tr 3 (s' := (159, [(0, .ref 77)], [.int (59 : Int32), .ref 77, .ref 77], st_mm s)) rfl ?_
  refine bi_TcI (as := [.ref 77, .int (59 : Int32)]) rfl rfl ?_
  refine cI.mono h (fun r19 s19 h => ?_) (fun _ _ h => h.elim)
  refine bi_TcV (as := [.ref 77, .int r19]) rfl rfl ?_
  refine cV.mono h (fun s20 h => ?_) (fun _ _ h => h.elim)
  exact bi_Tv rfl rfl (Or.inl ⟨_, rfl, h⟩)
/-- PolicyRowsModel.line()V -/
theorem en_X12_line {X : bi_X} {d : Nat} {K : bi_St → Prop} {E : Nat → bi_St → Prop} {s : bi_St}   (h : cI X d 175 [.ref 77] s (fun (r1 : Int32) (s1 : bi_St) => ((¬ r1 = (6 : Int32)) → ((¬ r1 = (7 : Int32)) → ((r1 = (8 : Int32)) → at_X12_line_85 X (d + 1) K E s1 (r1)) ∧ (¬ (r1 = (8 : Int32)) → ((¬ r1 = (9 : Int32)) → ((¬ r1 = (13 : Int32)) → cV X d 176 [.ref 77, .int (1 : Int32)] s1 (fun (s2 : bi_St) => at_X12_line_155 X (d + 1) K E s2) (fun _ _ => False)) ∧ (¬ (¬ r1 = (13 : Int32)) → ((¬ (st_g s1 77 18) = (3 : Int32)) → cI X d 195 [.ref 77, .int (0 : Int32)] s1 (fun (r3 : Int32) (s3 : bi_St) => ((r3 = 0) → at_X12_line_155 X (d + 1) K E s3) ∧ (¬ (r3 = 0) → cV X d 199 [.ref 77] s3 (fun (s4 : bi_St) => at_X12_line_155 X (d + 1) K E s4) (fun _ _ => False))) (fun _ _ => False)) ∧ (¬ (¬ (st_g s1 77 18) = (3 : Int32)) → cI X d 195 [.ref 77, .int (1 : Int32)] s1 (fun (r5 : Int32) (s5 : bi_St) => ((r5 = 0) → at_X12_line_155 X (d + 1) K E s5) ∧ (¬ (r5 = 0) → cV X d 199 [.ref 77] s5 (fun (s6 : bi_St) => at_X12_line_155 X (d + 1) K E s6) (fun _ _ => False))) (fun _ _ => False)))) ∧ (¬ (¬ r1 = (9 : Int32)) → at_X12_line_85 X (d + 1) K E s1 (r1)))) ∧ (¬ (¬ r1 = (7 : Int32)) → ((¬ (st_g s1 77 16) = (16 : Int32)) → cI X d 195 [.ref 77, .int (0 : Int32)] s1 (fun (r7 : Int32) (s7 : bi_St) => ((r7 = 0) → at_X12_line_155 X (d + 1) K E s7) ∧ (¬ (r7 = 0) → cV X d 197 [.ref 77] s7 (fun (s8 : bi_St) => at_X12_line_155 X (d + 1) K E s8) (fun _ _ => False))) (fun _ _ => False)) ∧ (¬ (¬ (st_g s1 77 16) = (16 : Int32)) → cI X d 195 [.ref 77, .int (1 : Int32)] s1 (fun (r9 : Int32) (s9 : bi_St) => ((r9 = 0) → at_X12_line_155 X (d + 1) K E s9) ∧ (¬ (r9 = 0) → cV X d 197 [.ref 77] s9 (fun (s10 : bi_St) => at_X12_line_155 X (d + 1) K E s10) (fun _ _ => False))) (fun _ _ => False)))) ∧ (¬ (¬ r1 = (6 : Int32)) → ((¬ (st_g s1 77 15) = (6 : Int32)) → cI X d 195 [.ref 77, .int (0 : Int32)] s1 (fun (r11 : Int32) (s11 : bi_St) => ((r11 = 0) → at_X12_line_155 X (d + 1) K E s11) ∧ (¬ (r11 = 0) → cV X d 196 [.ref 77] s11 (fun (s12 : bi_St) => at_X12_line_155 X (d + 1) K E s12) (fun _ _ => False))) (fun _ _ => False)) ∧ (¬ (¬ (st_g s1 77 15) = (6 : Int32)) → cI X d 195 [.ref 77, .int (1 : Int32)] s1 (fun (r13 : Int32) (s13 : bi_St) => ((r13 = 0) → at_X12_line_155 X (d + 1) K E s13) ∧ (¬ (r13 = 0) → cV X d 196 [.ref 77] s13 (fun (s14 : bi_St) => at_X12_line_155 X (d + 1) K E s14) (fun _ _ => False))) (fun _ _ => False)))) (fun _ _ => False)) : cV X (d + 1) 200 [.ref 77] s K E := by
  show bi_T _ _ _ _ _
  refine bi_Tr 1 (s' := (1, [(0, .ref 77)], [.ref 77], st_mm s)) rfl ?_
  refine bi_TcI (as := [.ref 77]) rfl rfl ?_
  refine cI.mono h (fun r1 s1 h => ?_) (fun _ _ h => h.elim)
  refine bi_Tr 4 (s' := ((if ¬ r1 = (6 : Int32) then 39 else 11), [(1, .int r1), (0, .ref 77)], [], st_mm s1)) rfl (bi_Tif (fun hc => ?_) (fun hc => ?_))
  · have h := h.1 hc
    refine bi_Tr 3 (s' := ((if ¬ r1 = (7 : Int32) then 73 else 45), [(1, .int r1), (0, .ref 77)], [], st_mm s1)) rfl (bi_Tif (fun hc => ?_) (fun hc => ?_))
    · have h := h.1 hc
      refine bi_Tr 3 (s' := ((if r1 = (8 : Int32) then 85 else 79), [(1, .int r1), (0, .ref 77)], [], st_mm s1)) rfl (bi_Tif (fun hc => ?_) (fun hc => ?_))
      · have h := h.1 hc
        exact bi_Tww h rfl rfl ⟨rfl, rfl, trivial⟩
      · have h := h.2 hc
        refine bi_Tr 3 (s' := ((if ¬ r1 = (9 : Int32) then 117 else 85), [(1, .int r1), (0, .ref 77)], [], st_mm s1)) rfl (bi_Tif (fun hc => ?_) (fun hc => ?_))
        · have h := h.1 hc
          refine bi_Tr 3 (s' := ((if ¬ r1 = (13 : Int32) then 150 else 123), [(1, .int r1), (0, .ref 77)], [], st_mm s1)) rfl (bi_Tif (fun hc => ?_) (fun hc => ?_))
          · have h := h.1 hc
            refine bi_Tr 2 (s' := (152, [(1, .int r1), (0, .ref 77)], [.int (1 : Int32), .ref 77], st_mm s1)) rfl ?_
            refine bi_TcV (as := [.ref 77, .int (1 : Int32)]) rfl rfl ?_
            refine cV.mono h (fun s2 h => ?_) (fun _ _ h => h.elim)
            exact bi_Tww h rfl rfl ⟨rfl, trivial⟩
          · have h := h.2 hc
            refine bi_Tr 5 (s' := ((if ¬ (st_g s1 77 18) = (3 : Int32) then 136 else 132), [(1, .int r1), (0, .ref 77)], [.ref 77], st_mm s1)) rfl (bi_Tif (fun hc => ?_) (fun hc => ?_))
            · have h := h.1 hc
              refine bi_Tr 1 (s' := (137, [(1, .int r1), (0, .ref 77)], [.int (0 : Int32), .ref 77], st_mm s1)) rfl ?_
              refine bi_TcI (as := [.ref 77, .int (0 : Int32)]) rfl rfl ?_
              refine cI.mono h (fun r3 s3 h => ?_) (fun _ _ h => h.elim)
              refine bi_Tr 1 (s' := ((if r3 = 0 then 155 else 143), [(1, .int r1), (0, .ref 77)], [], st_mm s3)) rfl (bi_Tif (fun hc => ?_) (fun hc => ?_))
              · have h := h.1 hc
                exact bi_Tww h rfl rfl ⟨rfl, trivial⟩
              · have h := h.2 hc
                refine bi_Tr 1 (s' := (144, [(1, .int r1), (0, .ref 77)], [.ref 77], st_mm s3)) rfl ?_
                refine bi_TcV (as := [.ref 77]) rfl rfl ?_
                refine cV.mono h (fun s4 h => ?_) (fun _ _ h => h.elim)
                refine bi_Tr 1 (s' := (155, [(1, .int r1), (0, .ref 77)], [], st_mm s4)) rfl ?_
                exact bi_Tww h rfl rfl ⟨rfl, trivial⟩
            · have h := h.2 hc
              refine bi_Tr 2 (s' := (137, [(1, .int r1), (0, .ref 77)], [.int (1 : Int32), .ref 77], st_mm s1)) rfl ?_
              refine bi_TcI (as := [.ref 77, .int (1 : Int32)]) rfl rfl ?_
              refine cI.mono h (fun r5 s5 h => ?_) (fun _ _ h => h.elim)
              refine bi_Tr 1 (s' := ((if r5 = 0 then 155 else 143), [(1, .int r1), (0, .ref 77)], [], st_mm s5)) rfl (bi_Tif (fun hc => ?_) (fun hc => ?_))
              · have h := h.1 hc
                exact bi_Tww h rfl rfl ⟨rfl, trivial⟩
              · have h := h.2 hc
                refine bi_Tr 1 (s' := (144, [(1, .int r1), (0, .ref 77)], [.ref 77], st_mm s5)) rfl ?_
                refine bi_TcV (as := [.ref 77]) rfl rfl ?_
                refine cV.mono h (fun s6 h => ?_) (fun _ _ h => h.elim)
                refine bi_Tr 1 (s' := (155, [(1, .int r1), (0, .ref 77)], [], st_mm s6)) rfl ?_
                exact bi_Tww h rfl rfl ⟨rfl, trivial⟩
        · have h := h.2 hc
          exact bi_Tww h rfl rfl ⟨rfl, rfl, trivial⟩
    · have h := h.2 hc
      refine bi_Tr 5 (s' := ((if ¬ (st_g s1 77 16) = (16 : Int32) then 59 else 55), [(1, .int r1), (0, .ref 77)], [.ref 77], st_mm s1)) rfl (bi_Tif (fun hc => ?_) (fun hc => ?_))
      · have h := h.1 hc
        refine bi_Tr 1 (s' := (60, [(1, .int r1), (0, .ref 77)], [.int (0 : Int32), .ref 77], st_mm s1)) rfl ?_
        refine bi_TcI (as := [.ref 77, .int (0 : Int32)]) rfl rfl ?_
        refine cI.mono h (fun r7 s7 h => ?_) (fun _ _ h => h.elim)
        refine bi_Tr 1 (s' := ((if r7 = 0 then 155 else 66), [(1, .int r1), (0, .ref 77)], [], st_mm s7)) rfl (bi_Tif (fun hc => ?_) (fun hc => ?_))
        · have h := h.1 hc
          exact bi_Tww h rfl rfl ⟨rfl, trivial⟩
        · have h := h.2 hc
          refine bi_Tr 1 (s' := (67, [(1, .int r1), (0, .ref 77)], [.ref 77], st_mm s7)) rfl ?_
          refine bi_TcV (as := [.ref 77]) rfl rfl ?_
          refine cV.mono h (fun s8 h => ?_) (fun _ _ h => h.elim)
          refine bi_Tr 1 (s' := (155, [(1, .int r1), (0, .ref 77)], [], st_mm s8)) rfl ?_
          exact bi_Tww h rfl rfl ⟨rfl, trivial⟩
      · have h := h.2 hc
        refine bi_Tr 2 (s' := (60, [(1, .int r1), (0, .ref 77)], [.int (1 : Int32), .ref 77], st_mm s1)) rfl ?_
        refine bi_TcI (as := [.ref 77, .int (1 : Int32)]) rfl rfl ?_
        refine cI.mono h (fun r9 s9 h => ?_) (fun _ _ h => h.elim)
        refine bi_Tr 1 (s' := ((if r9 = 0 then 155 else 66), [(1, .int r1), (0, .ref 77)], [], st_mm s9)) rfl (bi_Tif (fun hc => ?_) (fun hc => ?_))
        · have h := h.1 hc
          exact bi_Tww h rfl rfl ⟨rfl, trivial⟩
        · have h := h.2 hc
          refine bi_Tr 1 (s' := (67, [(1, .int r1), (0, .ref 77)], [.ref 77], st_mm s9)) rfl ?_
          refine bi_TcV (as := [.ref 77]) rfl rfl ?_
          refine cV.mono h (fun s10 h => ?_) (fun _ _ h => h.elim)
          refine bi_Tr 1 (s' := (155, [(1, .int r1), (0, .ref 77)], [], st_mm s10)) rfl ?_
          exact bi_Tww h rfl rfl ⟨rfl, trivial⟩
  · have h := h.2 hc
    refine bi_Tr 5 (s' := ((if ¬ (st_g s1 77 15) = (6 : Int32) then 25 else 21), [(1, .int r1), (0, .ref 77)], [.ref 77], st_mm s1)) rfl (bi_Tif (fun hc => ?_) (fun hc => ?_))
    · have h := h.1 hc
      refine bi_Tr 1 (s' := (26, [(1, .int r1), (0, .ref 77)], [.int (0 : Int32), .ref 77], st_mm s1)) rfl ?_
      refine bi_TcI (as := [.ref 77, .int (0 : Int32)]) rfl rfl ?_
      refine cI.mono h (fun r11 s11 h => ?_) (fun _ _ h => h.elim)
      refine bi_Tr 1 (s' := ((if r11 = 0 then 155 else 32), [(1, .int r1), (0, .ref 77)], [], st_mm s11)) rfl (bi_Tif (fun hc => ?_) (fun hc => ?_))
      · have h := h.1 hc
        exact bi_Tww h rfl rfl ⟨rfl, trivial⟩
      · have h := h.2 hc
        refine bi_Tr 1 (s' := (33, [(1, .int r1), (0, .ref 77)], [.ref 77], st_mm s11)) rfl ?_
        refine bi_TcV (as := [.ref 77]) rfl rfl ?_
        refine cV.mono h (fun s12 h => ?_) (fun _ _ h => h.elim)
        refine bi_Tr 1 (s' := (155, [(1, .int r1), (0, .ref 77)], [], st_mm s12)) rfl ?_
        exact bi_Tww h rfl rfl ⟨rfl, trivial⟩
    · have h := h.2 hc
      refine bi_Tr 2 (s' := (26, [(1, .int r1), (0, .ref 77)], [.int (1 : Int32), .ref 77], st_mm s1)) rfl ?_
      refine bi_TcI (as := [.ref 77, .int (1 : Int32)]) rfl rfl ?_
      refine cI.mono h (fun r13 s13 h => ?_) (fun _ _ h => h.elim)
      refine bi_Tr 1 (s' := ((if r13 = 0 then 155 else 32), [(1, .int r1), (0, .ref 77)], [], st_mm s13)) rfl (bi_Tif (fun hc => ?_) (fun hc => ?_))
      · have h := h.1 hc
        exact bi_Tww h rfl rfl ⟨rfl, trivial⟩
      · have h := h.2 hc
        refine bi_Tr 1 (s' := (33, [(1, .int r1), (0, .ref 77)], [.ref 77], st_mm s13)) rfl ?_
        refine bi_TcV (as := [.ref 77]) rfl rfl ?_
        refine cV.mono h (fun s14 h => ?_) (fun _ _ h => h.elim)
        refine bi_Tr 1 (s' := (155, [(1, .int r1), (0, .ref 77)], [], st_mm s14)) rfl ?_
        exact bi_Tww h rfl rfl ⟨rfl, trivial⟩
/-- PolicyRowsModel.readsFrom(I)V -/
theorem en_X12_readsFrom {X : bi_X} {d : Nat} {K : bi_St → Prop} {E : Nat → bi_St → Prop} {s : bi_St} {x0 : Int32}  (h : cV X d 172 [.ref 77] (st_p (st_p (st_p (st_p (st_p (st_p s 77 2 (0 : Int32)) 77 4 (-1 : Int32)) 77 3 (0 : Int32)) 77 6 x0) 77 7 (0 : Int32)) 77 19 (0 : Int32)) (fun (s1 : bi_St) => K s1) (fun _ _ => False)) : cV X (d + 1) 201 [.ref 77, .int x0] s K E := by
  show bi_T _ _ _ _ _
  refine bi_Tr 19 (s' := (31, [(0, .ref 77), (1, .int x0)], [.ref 77], st_mm (st_p (st_p (st_p (st_p (st_p (st_p s 77 2 (0 : Int32)) 77 4 (-1 : Int32)) 77 3 (0 : Int32)) 77 6 x0) 77 7 (0 : Int32)) 77 19 (0 : Int32)))) rfl ?_
  refine bi_TcV (as := [.ref 77]) rfl rfl ?_
  refine cV.mono h (fun s1 h => ?_) (fun _ _ h => h.elim)
  exact bi_Tv rfl rfl (Or.inl ⟨_, rfl, h⟩)
def at_X12_tell_59 (X : bi_X) (d : Nat) (K : Int32 → bi_St → Prop) (E : Nat → bi_St → Prop) (s : bi_St) (y1 : Int32) (y2 : Int32) : Prop := bi_T X d 202 (59, [(0, .ref 77), (1, .int y1), (2, .int y2)], [], st_mm s) (st_RI K E)
def at_X12_tell_115 (X : bi_X) (d : Nat) (K : Int32 → bi_St → Prop) (E : Nat → bi_St → Prop) (s : bi_St)  : Prop := bi_T X d 202 (115, [(0, .ref 77)], [], st_mm s) (st_RI K E)
def at_X12_tell_136 (X : bi_X) (d : Nat) (K : Int32 → bi_St → Prop) (E : Nat → bi_St → Prop) (s : bi_St)  : Prop := bi_T X d 202 (136, [(0, .ref 77)], [], st_mm s) (st_RI K E)
def at_X12_tell_228 (X : bi_X) (d : Nat) (K : Int32 → bi_St → Prop) (E : Nat → bi_St → Prop) (s : bi_St) (y2 : Int32) : Prop := bi_T X d 202 (228, [(0, .ref 77), (2, .int y2)], [], st_mm s) (st_RI K E)
theorem go_X12_tell_59 {X : bi_X} {d : Nat} {K : Int32 → bi_St → Prop} {E : Nat → bi_St → Prop}  {s : bi_St} {y1 : Int32} {y2 : Int32}  (h : (((72 : Int32) ≤ y2) → cV X d 201 [.ref 77, .int y1] s (fun (s4 : bi_St) => cI X d 175 [.ref 77] s4 (fun (r5 : Int32) (s5 : bi_St) => ((¬ r5 = (5 : Int32)) → at_X12_tell_115 X (d + 1) K E s5) ∧ (¬ (¬ r5 = (5 : Int32)) → cV X d 172 [.ref 77] s5 (fun (s6 : bi_St) => cI X d 180 [.ref 77, .int (1 : Int32), .int (4 : Int32)] s6 (fun (r7 : Int32) (s7 : bi_St) => cI X d 178 [.ref 77, .int (59 : Int32)] (st_p s7 77 14 r7) (fun (r8 : Int32) (s8 : bi_St) => cV X d 179 [.ref 77, .int r8] s8 (fun (s9 : bi_St) => at_X12_tell_115 X (d + 1) K E s9) (fun _ _ => False)) (fun _ _ => False)) (fun _ _ => False)) (fun _ _ => False))) (fun _ _ => False)) (fun _ _ => False)) ∧ (¬ ((72 : Int32) ≤ y2) → bi_in y2 72 = true ∧ (at_X12_tell_59 X (d + 1) K E (st_p s 89 (y2).toNatClampNeg (0 : Int32)) (y1) ((y2 + (1 : Int32)))))) : at_X12_tell_59 X (d + 1) K E s y1 y2 := by
  show bi_T _ _ _ _ _
  refine bi_Tr 3 (s' := ((if (72 : Int32) ≤ y2 then 78 else 65), [(0, .ref 77), (1, .int y1), (2, .int y2)], [], st_mm s)) rfl (bi_Tif (fun hc => ?_) (fun hc => ?_))
  · have h := h.1 hc
    refine bi_Tr 2 (s' := (80, [(0, .ref 77), (1, .int y1), (2, .int y2)], [.int y1, .ref 77], st_mm s)) rfl ?_
    refine bi_TcV (as := [.ref 77, .int y1]) rfl rfl ?_
    refine cV.mono h (fun s4 h => ?_) (fun _ _ h => h.elim)
    refine bi_Tr 1 (s' := (84, [(0, .ref 77), (1, .int y1), (2, .int y2)], [.ref 77], st_mm s4)) rfl ?_
    refine bi_TcI (as := [.ref 77]) rfl rfl ?_
    refine cI.mono h (fun r5 s5 h => ?_) (fun _ _ h => h.elim)
    refine bi_Tr 2 (s' := ((if ¬ r5 = (5 : Int32) then 115 else 91), [(0, .ref 77), (1, .int y1), (2, .int y2)], [], st_mm s5)) rfl (bi_Tif (fun hc => ?_) (fun hc => ?_))
    · have h := h.1 hc
      exact bi_Tww h rfl rfl ⟨rfl, trivial⟩
    · have h := h.2 hc
      refine bi_Tr 1 (s' := (92, [(0, .ref 77), (1, .int y1), (2, .int y2)], [.ref 77], st_mm s5)) rfl ?_
      refine bi_TcV (as := [.ref 77]) rfl rfl ?_
      refine cV.mono h (fun s6 h => ?_) (fun _ _ h => h.elim)
      refine bi_Tr 4 (s' := (99, [(0, .ref 77), (1, .int y1), (2, .int y2)], [.int (4 : Int32), .int (1 : Int32), .ref 77, .ref 77], st_mm s6)) rfl ?_
      refine bi_TcI (as := [.ref 77, .int (1 : Int32), .int (4 : Int32)]) rfl rfl ?_
      refine cI.mono h (fun r7 s7 h => ?_) (fun _ _ h => h.elim)
      refine bi_Tr 4 (s' := (109, [(0, .ref 77), (1, .int y1), (2, .int y2)], [.int (59 : Int32), .ref 77, .ref 77], st_mm (st_p s7 77 14 r7))) rfl ?_
      refine bi_TcI (as := [.ref 77, .int (59 : Int32)]) rfl rfl ?_
      refine cI.mono h (fun r8 s8 h => ?_) (fun _ _ h => h.elim)
      refine bi_TcV (as := [.ref 77, .int r8]) rfl rfl ?_
      refine cV.mono h (fun s9 h => ?_) (fun _ _ h => h.elim)
      exact bi_Tww h rfl rfl ⟨rfl, trivial⟩
  · have h := h.2 hc
    refine bi_Tr 4 (s' := (71, [(0, .ref 77), (1, .int y1), (2, .int y2)], [.int (0 : Int32), .int y2, .ref 89], st_mm s)) rfl ?_
    obtain ⟨hi, h⟩ := h
    refine bi_Tias rfl rfl hi ?_
    refine bi_Tr 2 (s' := (59, [(2, .int (y2 + (1 : Int32))), (0, .ref 77), (1, .int y1)], [], st_mm (st_p s 89 (y2).toNatClampNeg (0 : Int32)))) rfl ?_
    exact bi_Tww h rfl rfl ⟨rfl, rfl, rfl, trivial⟩
theorem go_X12_tell_115 {X : bi_X} {d : Nat} {K : Int32 → bi_St → Prop} {E : Nat → bi_St → Prop}  {s : bi_St}   (h : cI X d 177 [.ref 77] s (fun (r10 : Int32) (s10 : bi_St) => ((r10 = 0) → at_X12_tell_136 X (d + 1) K E s10) ∧ (¬ (r10 = 0) → (((st_g s10 77 8) = 0) → at_X12_tell_136 X (d + 1) K E s10) ∧ (¬ ((st_g s10 77 8) = 0) → cV X d 200 [.ref 77] s10 (fun (s11 : bi_St) => at_X12_tell_115 X (d + 1) K E s11) (fun _ _ => False)))) (fun _ _ => False)) : at_X12_tell_115 X (d + 1) K E s  := by
  show bi_T _ _ _ _ _
  refine bi_Tr 1 (s' := (116, [(0, .ref 77)], [.ref 77], st_mm s)) rfl ?_
  refine bi_TcI (as := [.ref 77]) rfl rfl ?_
  refine cI.mono h (fun r10 s10 h => ?_) (fun _ _ h => h.elim)
  refine bi_Tr 1 (s' := ((if r10 = 0 then 136 else 122), [(0, .ref 77)], [], st_mm s10)) rfl (bi_Tif (fun hc => ?_) (fun hc => ?_))
  · have h := h.1 hc
    exact bi_Tww h rfl rfl ⟨rfl, trivial⟩
  · have h := h.2 hc
    refine bi_Tr 3 (s' := ((if (st_g s10 77 8) = 0 then 136 else 129), [(0, .ref 77)], [], st_mm s10)) rfl (bi_Tif (fun hc => ?_) (fun hc => ?_))
    · have h := h.1 hc
      exact bi_Tww h rfl rfl ⟨rfl, trivial⟩
    · have h := h.2 hc
      refine bi_Tr 1 (s' := (130, [(0, .ref 77)], [.ref 77], st_mm s10)) rfl ?_
      refine bi_TcV (as := [.ref 77]) rfl rfl ?_
      refine cV.mono h (fun s11 h => ?_) (fun _ _ h => h.elim)
      refine bi_Tr 1 (s' := (115, [(0, .ref 77)], [], st_mm s11)) rfl ?_
      exact bi_Tww h rfl rfl ⟨rfl, trivial⟩
theorem go_X12_tell_136 {X : bi_X} {d : Nat} {K : Int32 → bi_St → Prop} {E : Nat → bi_St → Prop}  {s : bi_St}   (h : cI X d 177 [.ref 77] s (fun (r12 : Int32) (s12 : bi_St) => ((¬ r12 = 0) → cV X d 165 [.ref 77, .ref 84, .ref 83] (st_p (st_p (st_p (st_p s12 77 28 (st_g s12 77 14)) 77 27 (st_g (st_p s12 77 28 (st_g s12 77 14)) 77 15)) 77 29 (st_g (st_p (st_p s12 77 28 (st_g s12 77 14)) 77 27 (st_g (st_p s12 77 28 (st_g s12 77 14)) 77 15)) 77 17)) 77 30 (st_g (st_p (st_p (st_p s12 77 28 (st_g s12 77 14)) 77 27 (st_g (st_p s12 77 28 (st_g s12 77 14)) 77 15)) 77 29 (st_g (st_p (st_p s12 77 28 (st_g s12 77 14)) 77 27 (st_g (st_p s12 77 28 (st_g s12 77 14)) 77 15)) 77 17)) 77 18)) (fun (s13 : bi_St) => cV X d 165 [.ref 77, .ref 86, .ref 85] s13 (fun (s14 : bi_St) => cV X d 165 [.ref 77, .ref 80, .ref 87] s14 (fun (s15 : bi_St) => at_X12_tell_228 X (d + 1) K E s15 ((0 : Int32))) (fun _ _ => False)) (fun _ _ => False)) (fun _ _ => False)) ∧ (¬ (¬ r12 = 0) → bi_in (0 : Int32) 3 = true ∧ (bi_in (0 : Int32) 3 = true ∧ (K (st_g (st_p s12 79 ((0 : Int32)).toNatClampNeg ((st_g s12 79 ((0 : Int32)).toNatClampNeg) + (1 : Int32))) 77 3) (st_p s12 79 ((0 : Int32)).toNatClampNeg ((st_g s12 79 ((0 : Int32)).toNatClampNeg) + (1 : Int32))))))) (fun _ _ => False)) : at_X12_tell_136 X (d + 1) K E s  := by
  show bi_T _ _ _ _ _
  refine bi_Tr 1 (s' := (137, [(0, .ref 77)], [.ref 77], st_mm s)) rfl ?_
  refine bi_TcI (as := [.ref 77]) rfl rfl ?_
  refine cI.mono h (fun r12 s12 h => ?_) (fun _ _ h => h.elim)
  refine bi_Tr 1 (s' := ((if ¬ r12 = 0 then 158 else 143), [(0, .ref 77)], [], st_mm s12)) rfl (bi_Tif (fun hc => ?_) (fun hc => ?_))
  · have h := h.1 hc
    refine bi_Tr 21 (s' := (199, [(0, .ref 77)], [.ref 83, .ref 84, .ref 77], st_mm (st_p (st_p (st_p (st_p s12 77 28 (st_g s12 77 14)) 77 27 (st_g (st_p s12 77 28 (st_g s12 77 14)) 77 15)) 77 29 (st_g (st_p (st_p s12 77 28 (st_g s12 77 14)) 77 27 (st_g (st_p s12 77 28 (st_g s12 77 14)) 77 15)) 77 17)) 77 30 (st_g (st_p (st_p (st_p s12 77 28 (st_g s12 77 14)) 77 27 (st_g (st_p s12 77 28 (st_g s12 77 14)) 77 15)) 77 29 (st_g (st_p (st_p s12 77 28 (st_g s12 77 14)) 77 27 (st_g (st_p s12 77 28 (st_g s12 77 14)) 77 15)) 77 17)) 77 18)))) rfl ?_
    refine bi_TcV (as := [.ref 77, .ref 84, .ref 83]) rfl rfl ?_
    refine cV.mono h (fun s13 h => ?_) (fun _ _ h => h.elim)
    refine bi_Tr 5 (s' := (211, [(0, .ref 77)], [.ref 85, .ref 86, .ref 77], st_mm s13)) rfl ?_
    refine bi_TcV (as := [.ref 77, .ref 86, .ref 85]) rfl rfl ?_
    refine cV.mono h (fun s14 h => ?_) (fun _ _ h => h.elim)
    refine bi_Tr 5 (s' := (223, [(0, .ref 77)], [.ref 87, .ref 80, .ref 77], st_mm s14)) rfl ?_
    refine bi_TcV (as := [.ref 77, .ref 80, .ref 87]) rfl rfl ?_
    refine cV.mono h (fun s15 h => ?_) (fun _ _ h => h.elim)
    refine bi_Tr 2 (s' := (228, [(2, .int (0 : Int32)), (0, .ref 77)], [], st_mm s15)) rfl ?_
    exact bi_Tww h rfl rfl ⟨rfl, rfl, trivial⟩
  · have h := h.2 hc
    refine bi_Tr 4 (s' := (149, [(0, .ref 77)], [.int (0 : Int32), .ref 79, .int (0 : Int32), .ref 79], st_mm s12)) rfl ?_
    obtain ⟨hi, h⟩ := h
    refine bi_Tial rfl rfl rfl hi ?_
    refine bi_Tr 2 (s' := (152, [(0, .ref 77)], [.int ((st_g s12 79 ((0 : Int32)).toNatClampNeg) + (1 : Int32)), .int (0 : Int32), .ref 79], st_mm s12)) rfl ?_
    obtain ⟨hi, h⟩ := h
    refine bi_Tias rfl rfl hi ?_
    refine bi_Tr 2 (s' := (157, [(0, .ref 77)], [.int (st_g (st_p s12 79 ((0 : Int32)).toNatClampNeg ((st_g s12 79 ((0 : Int32)).toNatClampNeg) + (1 : Int32))) 77 3)], st_mm (st_p s12 79 ((0 : Int32)).toNatClampNeg ((st_g s12 79 ((0 : Int32)).toNatClampNeg) + (1 : Int32))))) rfl ?_
    exact bi_Tv rfl rfl (Or.inl ⟨_, _, rfl, h⟩)
theorem go_X12_tell_228 {X : bi_X} {d : Nat} {K : Int32 → bi_St → Prop} {E : Nat → bi_St → Prop}  {s : bi_St} {y2 : Int32}  (h : (((72 : Int32) ≤ y2) → bi_in (6 : Int32) 144 = true ∧ (bi_in (7 : Int32) 144 = true ∧ (K (0 : Int32) (st_p (st_p (st_p (st_p (st_p (st_p s 90 ((6 : Int32)).toNatClampNeg (((1 : Int32) <<< ((st_g s 77 29) &&& 31)) - (1 : Int32))) 90 ((7 : Int32)).toNatClampNeg (st_g (st_p s 90 ((6 : Int32)).toNatClampNeg (((1 : Int32) <<< ((st_g s 77 29) &&& 31)) - (1 : Int32))) 77 16)) 77 40 (0 : Int32)) 77 62 (0 : Int32)) 77 67 (0 : Int32)) 77 48 (0 : Int32))))) ∧ (¬ ((72 : Int32) ≤ y2) → bi_in y2 72 = true ∧ (bi_in y2 144 = true ∧ (at_X12_tell_228 X (d + 1) K E (st_p s 90 (y2).toNatClampNeg (st_g s 89 (y2).toNatClampNeg)) ((y2 + (1 : Int32))))))) : at_X12_tell_228 X (d + 1) K E s y2 := by
  show bi_T _ _ _ _ _
  refine bi_Tr 3 (s' := ((if (72 : Int32) ≤ y2 then 252 else 234), [(0, .ref 77), (2, .int y2)], [], st_mm s)) rfl (bi_Tif (fun hc => ?_) (fun hc => ?_))
  · have h := h.1 hc
    refine bi_Tr 9 (s' := (266, [(0, .ref 77), (2, .int y2)], [.int (((1 : Int32) <<< ((st_g s 77 29) &&& 31)) - (1 : Int32)), .int (6 : Int32), .ref 90], st_mm s)) rfl ?_
    obtain ⟨hi, h⟩ := h
    refine bi_Tias rfl rfl hi ?_
    refine bi_Tr 5 (s' := (277, [(0, .ref 77), (2, .int y2)], [.int (st_g (st_p s 90 ((6 : Int32)).toNatClampNeg (((1 : Int32) <<< ((st_g s 77 29) &&& 31)) - (1 : Int32))) 77 16), .int (7 : Int32), .ref 90], st_mm (st_p s 90 ((6 : Int32)).toNatClampNeg (((1 : Int32) <<< ((st_g s 77 29) &&& 31)) - (1 : Int32))))) rfl ?_
    obtain ⟨hi, h⟩ := h
    refine bi_Tias rfl rfl hi ?_
    refine bi_Tr 8 (s' := (290, [(0, .ref 77), (2, .int y2)], [.int (0 : Int32), .ref 77], st_mm (st_p (st_p (st_p (st_p s 90 ((6 : Int32)).toNatClampNeg (((1 : Int32) <<< ((st_g s 77 29) &&& 31)) - (1 : Int32))) 90 ((7 : Int32)).toNatClampNeg (st_g (st_p s 90 ((6 : Int32)).toNatClampNeg (((1 : Int32) <<< ((st_g s 77 29) &&& 31)) - (1 : Int32))) 77 16)) 77 40 (0 : Int32)) 77 62 (0 : Int32)))) rfl ?_
    refine bi_Tpz rfl rfl rfl rfl rfl rfl ?_
    refine bi_Tr 2 (s' := (295, [(0, .ref 77), (2, .int y2)], [.int (0 : Int32), .ref 77], st_mm (st_p (st_p (st_p (st_p (st_p s 90 ((6 : Int32)).toNatClampNeg (((1 : Int32) <<< ((st_g s 77 29) &&& 31)) - (1 : Int32))) 90 ((7 : Int32)).toNatClampNeg (st_g (st_p s 90 ((6 : Int32)).toNatClampNeg (((1 : Int32) <<< ((st_g s 77 29) &&& 31)) - (1 : Int32))) 77 16)) 77 40 (0 : Int32)) 77 62 (0 : Int32)) 77 67 (0 : Int32)))) rfl ?_
    refine bi_Tpz rfl rfl rfl rfl rfl rfl ?_
    refine bi_Tr 1 (s' := (299, [(0, .ref 77), (2, .int y2)], [.int (0 : Int32)], st_mm (st_p (st_p (st_p (st_p (st_p (st_p s 90 ((6 : Int32)).toNatClampNeg (((1 : Int32) <<< ((st_g s 77 29) &&& 31)) - (1 : Int32))) 90 ((7 : Int32)).toNatClampNeg (st_g (st_p s 90 ((6 : Int32)).toNatClampNeg (((1 : Int32) <<< ((st_g s 77 29) &&& 31)) - (1 : Int32))) 77 16)) 77 40 (0 : Int32)) 77 62 (0 : Int32)) 77 67 (0 : Int32)) 77 48 (0 : Int32)))) rfl ?_
    exact bi_Tv rfl rfl (Or.inl ⟨_, _, rfl, h⟩)
  · have h := h.2 hc
    refine bi_Tr 6 (s' := (244, [(0, .ref 77), (2, .int y2)], [.int y2, .ref 89, .int y2, .ref 90], st_mm s)) rfl ?_
    obtain ⟨hi, h⟩ := h
    refine bi_Tial rfl rfl rfl hi ?_
    obtain ⟨hi, h⟩ := h
    refine bi_Tias rfl rfl hi ?_
    refine bi_Tr 2 (s' := (228, [(2, .int (y2 + (1 : Int32))), (0, .ref 77)], [], st_mm (st_p s 90 (y2).toNatClampNeg (st_g s 89 (y2).toNatClampNeg)))) rfl ?_
    exact bi_Tww h rfl rfl ⟨rfl, rfl, trivial⟩
/-- PolicyRowsModel.tell(I)I -/
theorem en_X12_tell {X : bi_X} {d : Nat} {K : Int32 → bi_St → Prop} {E : Nat → bi_St → Prop} {s : bi_St} {x0 : Int32}  (h : ((x0 < 0) → cI X d 163 [.ref 77, .int (0 : Int32), .int (1 : Int32)] (st_p s 77 0 (0 : Int32)) (fun (r1 : Int32) (s1 : bi_St) => ((¬ r1 = 0) → at_X12_tell_59 X (d + 1) K E (st_p (st_p (st_p (st_p (st_p s1 77 14 (2 : Int32)) 77 15 (0 : Int32)) 77 16 (0 : Int32)) 77 17 (0 : Int32)) 77 18 (0 : Int32)) (x0) ((0 : Int32))) ∧ (¬ (¬ r1 = 0) → K (0 : Int32) s1)) (fun _ _ => False)) ∧ (¬ (x0 < 0) → (((st_g (st_p s 77 0 (0 : Int32)) 77 2) < x0) → cI X d 163 [.ref 77, .int (0 : Int32), .int (1 : Int32)] (st_p s 77 0 (0 : Int32)) (fun (r2 : Int32) (s2 : bi_St) => ((¬ r2 = 0) → at_X12_tell_59 X (d + 1) K E (st_p (st_p (st_p (st_p (st_p s2 77 14 (2 : Int32)) 77 15 (0 : Int32)) 77 16 (0 : Int32)) 77 17 (0 : Int32)) 77 18 (0 : Int32)) (x0) ((0 : Int32))) ∧ (¬ (¬ r2 = 0) → K (0 : Int32) s2)) (fun _ _ => False)) ∧ (¬ ((st_g (st_p s 77 0 (0 : Int32)) 77 2) < x0) → cI X d 163 [.ref 77, .int (1 : Int32), .int (1 : Int32)] (st_p s 77 0 (0 : Int32)) (fun (r3 : Int32) (s3 : bi_St) => ((¬ r3 = 0) → at_X12_tell_59 X (d + 1) K E (st_p (st_p (st_p (st_p (st_p s3 77 14 (2 : Int32)) 77 15 (0 : Int32)) 77 16 (0 : Int32)) 77 17 (0 : Int32)) 77 18 (0 : Int32)) (x0) ((0 : Int32))) ∧ (¬ (¬ r3 = 0) → K (0 : Int32) s3)) (fun _ _ => False)))) : cI X (d + 1) 202 [.ref 77, .int x0] s K E := by
  show bi_T _ _ _ _ _
  refine bi_Tr 6 (s' := ((if x0 < 0 then 22 else 10), [(0, .ref 77), (1, .int x0)], [.ref 77], st_mm (st_p s 77 0 (0 : Int32)))) rfl (bi_Tif (fun hc => ?_) (fun hc => ?_))
  · have h := h.1 hc
    refine bi_Tr 2 (s' := (24, [(0, .ref 77), (1, .int x0)], [.int (1 : Int32), .int (0 : Int32), .ref 77], st_mm (st_p s 77 0 (0 : Int32)))) rfl ?_
    refine bi_TcI (as := [.ref 77, .int (0 : Int32), .int (1 : Int32)]) rfl rfl ?_
    refine cI.mono h (fun r1 s1 h => ?_) (fun _ _ h => h.elim)
    refine bi_Tr 1 (s' := ((if ¬ r1 = 0 then 32 else 30), [(0, .ref 77), (1, .int x0)], [], st_mm s1)) rfl (bi_Tif (fun hc => ?_) (fun hc => ?_))
    · have h := h.1 hc
      refine bi_Tr 17 (s' := (59, [(2, .int (0 : Int32)), (0, .ref 77), (1, .int x0)], [], st_mm (st_p (st_p (st_p (st_p (st_p s1 77 14 (2 : Int32)) 77 15 (0 : Int32)) 77 16 (0 : Int32)) 77 17 (0 : Int32)) 77 18 (0 : Int32)))) rfl ?_
      exact bi_Tww h rfl rfl ⟨rfl, rfl, rfl, trivial⟩
    · have h := h.2 hc
      refine bi_Tr 1 (s' := (31, [(0, .ref 77), (1, .int x0)], [.int (0 : Int32)], st_mm s1)) rfl ?_
      exact bi_Tv rfl rfl (Or.inl ⟨_, _, rfl, h⟩)
  · have h := h.2 hc
    refine bi_Tr 4 (s' := ((if (st_g (st_p s 77 0 (0 : Int32)) 77 2) < x0 then 22 else 18), [(0, .ref 77), (1, .int x0)], [.ref 77], st_mm (st_p s 77 0 (0 : Int32)))) rfl (bi_Tif (fun hc => ?_) (fun hc => ?_))
    · have h := h.1 hc
      refine bi_Tr 2 (s' := (24, [(0, .ref 77), (1, .int x0)], [.int (1 : Int32), .int (0 : Int32), .ref 77], st_mm (st_p s 77 0 (0 : Int32)))) rfl ?_
      refine bi_TcI (as := [.ref 77, .int (0 : Int32), .int (1 : Int32)]) rfl rfl ?_
      refine cI.mono h (fun r2 s2 h => ?_) (fun _ _ h => h.elim)
      refine bi_Tr 1 (s' := ((if ¬ r2 = 0 then 32 else 30), [(0, .ref 77), (1, .int x0)], [], st_mm s2)) rfl (bi_Tif (fun hc => ?_) (fun hc => ?_))
      · have h := h.1 hc
        refine bi_Tr 17 (s' := (59, [(2, .int (0 : Int32)), (0, .ref 77), (1, .int x0)], [], st_mm (st_p (st_p (st_p (st_p (st_p s2 77 14 (2 : Int32)) 77 15 (0 : Int32)) 77 16 (0 : Int32)) 77 17 (0 : Int32)) 77 18 (0 : Int32)))) rfl ?_
        exact bi_Tww h rfl rfl ⟨rfl, rfl, rfl, trivial⟩
      · have h := h.2 hc
        refine bi_Tr 1 (s' := (31, [(0, .ref 77), (1, .int x0)], [.int (0 : Int32)], st_mm s2)) rfl ?_
        exact bi_Tv rfl rfl (Or.inl ⟨_, _, rfl, h⟩)
    · have h := h.2 hc
      refine bi_Tr 3 (s' := (24, [(0, .ref 77), (1, .int x0)], [.int (1 : Int32), .int (1 : Int32), .ref 77], st_mm (st_p s 77 0 (0 : Int32)))) rfl ?_
      refine bi_TcI (as := [.ref 77, .int (1 : Int32), .int (1 : Int32)]) rfl rfl ?_
      refine cI.mono h (fun r3 s3 h => ?_) (fun _ _ h => h.elim)
      refine bi_Tr 1 (s' := ((if ¬ r3 = 0 then 32 else 30), [(0, .ref 77), (1, .int x0)], [], st_mm s3)) rfl (bi_Tif (fun hc => ?_) (fun hc => ?_))
      · have h := h.1 hc
        refine bi_Tr 17 (s' := (59, [(2, .int (0 : Int32)), (0, .ref 77), (1, .int x0)], [], st_mm (st_p (st_p (st_p (st_p (st_p s3 77 14 (2 : Int32)) 77 15 (0 : Int32)) 77 16 (0 : Int32)) 77 17 (0 : Int32)) 77 18 (0 : Int32)))) rfl ?_
        exact bi_Tww h rfl rfl ⟨rfl, rfl, rfl, trivial⟩
      · have h := h.2 hc
        refine bi_Tr 1 (s' := (31, [(0, .ref 77), (1, .int x0)], [.int (0 : Int32)], st_mm s3)) rfl ?_
        exact bi_Tv rfl rfl (Or.inl ⟨_, _, rfl, h⟩)
/-- PolicyRowsModel.fault()I -/
theorem en_X12_fault {X : bi_X} {d : Nat} {K : Int32 → bi_St → Prop} {E : Nat → bi_St → Prop} {s : bi_St}   (h : K (st_g (st_p s 77 0 (0 : Int32)) 77 4) (st_p s 77 0 (0 : Int32))) : cI X d 203 [.ref 77] s K E := by
  show bi_T _ _ _ _ _
  refine bi_Tr 5 (s' := (9, [(0, .ref 77)], [.int (st_g (st_p s 77 0 (0 : Int32)) 77 4)], st_mm (st_p s 77 0 (0 : Int32)))) rfl ?_
  exact bi_Tv rfl rfl (Or.inl ⟨_, _, rfl, h⟩)
def at_X12_keeps_52 (X : bi_X) (d : Nat) (K : bi_St → Prop) (E : Nat → bi_St → Prop) (s : bi_St) (y1 : Int32) : Prop := bi_T X d 204 (52, [(0, .ref 77), (1, .int y1)], [], st_mm s) (st_RV K E)
def at_X12_keeps_12 (X : bi_X) (d : Nat) (K : bi_St → Prop) (E : Nat → bi_St → Prop) (s : bi_St) (y1 : Int32) : Prop := bi_T X d 204 (12, [(0, .ref 77), (1, .int y1)], [], st_mm s) (st_RV K E)
theorem go_X12_keeps_52 {X : bi_X} {d : Nat} {K : bi_St → Prop} {E : Nat → bi_St → Prop}  {s : bi_St} {y1 : Int32}  (h : (((72 : Int32) ≤ y1) → K (st_p s 77 40 ((st_g s 77 40) + (1 : Int32)))) ∧ (¬ ((72 : Int32) ≤ y1) → bi_in y1 144 = true ∧ (bi_in (((72 : Int32) * (st_g s 77 40)) + y1) 2880 = true ∧ (at_X12_keeps_52 X d K E (st_p s 91 ((((72 : Int32) * (st_g s 77 40)) + y1)).toNatClampNeg (st_g s 90 (y1).toNatClampNeg)) ((y1 + (1 : Int32))))))) : at_X12_keeps_52 X d K E s y1 := by
  show bi_T _ _ _ _ _
  refine bi_Tr 3 (s' := ((if (72 : Int32) ≤ y1 then 84 else 58), [(0, .ref 77), (1, .int y1)], [], st_mm s)) rfl (bi_Tif (fun hc => ?_) (fun hc => ?_))
  · have h := h.1 hc
    refine bi_Tr 6 (s' := (94, [(0, .ref 77), (1, .int y1)], [], st_mm (st_p s 77 40 ((st_g s 77 40) + (1 : Int32))))) rfl ?_
    exact bi_Tv rfl rfl (Or.inl ⟨_, rfl, h⟩)
  · have h := h.2 hc
    refine bi_Tr 11 (s' := (76, [(0, .ref 77), (1, .int y1)], [.int y1, .ref 90, .int (((72 : Int32) * (st_g s 77 40)) + y1), .ref 91], st_mm s)) rfl ?_
    obtain ⟨hi, h⟩ := h
    refine bi_Tial rfl rfl rfl hi ?_
    obtain ⟨hi, h⟩ := h
    refine bi_Tias rfl rfl hi ?_
    refine bi_Tr 2 (s' := (52, [(1, .int (y1 + (1 : Int32))), (0, .ref 77)], [], st_mm (st_p s 91 ((((72 : Int32) * (st_g s 77 40)) + y1)).toNatClampNeg (st_g s 90 (y1).toNatClampNeg)))) rfl ?_
    exact bi_Tww h rfl rfl ⟨rfl, rfl, trivial⟩
theorem go_X12_keeps_12 {X : bi_X} {d : Nat} {K : bi_St → Prop} {E : Nat → bi_St → Prop}  {s : bi_St} {y1 : Int32}  (h : (((2880 : Int32) ≤ y1) → at_X12_keeps_52 X d K E (st_p s 77 40 ((st_g s 77 40) - (1 : Int32))) ((0 : Int32))) ∧ (¬ ((2880 : Int32) ≤ y1) → bi_in y1 2880 = true ∧ (bi_in (y1 - (72 : Int32)) 2880 = true ∧ (at_X12_keeps_12 X d K E (st_p s 91 ((y1 - (72 : Int32))).toNatClampNeg (st_g s 91 (y1).toNatClampNeg)) ((y1 + (1 : Int32))))))) : at_X12_keeps_12 X d K E s y1 := by
  show bi_T _ _ _ _ _
  refine bi_Tr 3 (s' := ((if (2880 : Int32) ≤ y1 then 40 else 19), [(0, .ref 77), (1, .int y1)], [], st_mm s)) rfl (bi_Tif (fun hc => ?_) (fun hc => ?_))
  · have h := h.1 hc
    refine bi_Tr 8 (s' := (52, [(1, .int (0 : Int32)), (0, .ref 77)], [], st_mm (st_p s 77 40 ((st_g s 77 40) - (1 : Int32))))) rfl ?_
    exact bi_Tww h rfl rfl ⟨rfl, rfl, trivial⟩
  · have h := h.2 hc
    refine bi_Tr 8 (s' := (32, [(0, .ref 77), (1, .int y1)], [.int y1, .ref 91, .int (y1 - (72 : Int32)), .ref 91], st_mm s)) rfl ?_
    obtain ⟨hi, h⟩ := h
    refine bi_Tial rfl rfl rfl hi ?_
    obtain ⟨hi, h⟩ := h
    refine bi_Tias rfl rfl hi ?_
    refine bi_Tr 2 (s' := (12, [(1, .int (y1 + (1 : Int32))), (0, .ref 77)], [], st_mm (st_p s 91 ((y1 - (72 : Int32))).toNatClampNeg (st_g s 91 (y1).toNatClampNeg)))) rfl ?_
    exact bi_Tww h rfl rfl ⟨rfl, rfl, trivial⟩
/-- PolicyRowsModel.keeps()V -/
theorem en_X12_keeps {X : bi_X} {d : Nat} {K : bi_St → Prop} {E : Nat → bi_St → Prop} {s : bi_St}   (h : ((¬ (st_g s 77 40) = (40 : Int32)) → at_X12_keeps_52 X d K E s ((0 : Int32))) ∧ (¬ (¬ (st_g s 77 40) = (40 : Int32)) → at_X12_keeps_12 X d K E s ((72 : Int32)))) : cV X d 204 [.ref 77] s K E := by
  show bi_T _ _ _ _ _
  refine bi_Tr 4 (s' := ((if ¬ (st_g s 77 40) = (40 : Int32) then 50 else 9), [(0, .ref 77)], [], st_mm s)) rfl (bi_Tif (fun hc => ?_) (fun hc => ?_))
  · have h := h.1 hc
    refine bi_Tr 2 (s' := (52, [(1, .int (0 : Int32)), (0, .ref 77)], [], st_mm s)) rfl ?_
    exact bi_Tww h rfl rfl ⟨rfl, rfl, trivial⟩
  · have h := h.2 hc
    refine bi_Tr 2 (s' := (12, [(1, .int (72 : Int32)), (0, .ref 77)], [], st_mm s)) rfl ?_
    exact bi_Tww h rfl rfl ⟨rfl, rfl, trivial⟩
/-- PolicyRowsModel.refuses(I)I -/
theorem en_X12_refuses {X : bi_X} {d : Nat} {K : Int32 → bi_St → Prop} {E : Nat → bi_St → Prop} {s : bi_St} {x0 : Int32}  (h : bi_in x0 3 = true ∧ (bi_in x0 3 = true ∧ (K (-1 : Int32) (st_p s 79 (x0).toNatClampNeg ((st_g s 79 (x0).toNatClampNeg) + (1 : Int32)))))) : cI X d 205 [.ref 77, .int x0] s K E := by
  show bi_T _ _ _ _ _
  refine bi_Tr 4 (s' := (6, [(0, .ref 77), (1, .int x0)], [.int x0, .ref 79, .int x0, .ref 79], st_mm s)) rfl ?_
  obtain ⟨hi, h⟩ := h
  refine bi_Tial rfl rfl rfl hi ?_
  refine bi_Tr 2 (s' := (9, [(0, .ref 77), (1, .int x0)], [.int ((st_g s 79 (x0).toNatClampNeg) + (1 : Int32)), .int x0, .ref 79], st_mm s)) rfl ?_
  obtain ⟨hi, h⟩ := h
  refine bi_Tias rfl rfl hi ?_
  refine bi_Tr 1 (s' := (11, [(0, .ref 77), (1, .int x0)], [.int (-1 : Int32)], st_mm (st_p s 79 (x0).toNatClampNeg ((st_g s 79 (x0).toNatClampNeg) + (1 : Int32))))) rfl ?_
  exact bi_Tv rfl rfl (Or.inl ⟨_, _, rfl, h⟩)
def at_X12_undo_26 (X : bi_X) (d : Nat) (K : Int32 → bi_St → Prop) (E : Nat → bi_St → Prop) (s : bi_St) (y1 : Int32) : Prop := bi_T X d 206 (26, [(0, .ref 77), (1, .int y1)], [], st_mm s) (st_RI K E)
theorem go_X12_undo_26 {X : bi_X} {d : Nat} {K : Int32 → bi_St → Prop} {E : Nat → bi_St → Prop}  {s : bi_St} {y1 : Int32}  (h : (((72 : Int32) ≤ y1) → K (st_g s 77 40) s) ∧ (¬ ((72 : Int32) ≤ y1) → bi_in (((72 : Int32) * (st_g s 77 40)) + y1) 2880 = true ∧ (bi_in y1 144 = true ∧ (at_X12_undo_26 X d K E (st_p s 90 (y1).toNatClampNeg (st_g s 91 ((((72 : Int32) * (st_g s 77 40)) + y1)).toNatClampNeg)) ((y1 + (1 : Int32))))))) : at_X12_undo_26 X d K E s y1 := by
  show bi_T _ _ _ _ _
  refine bi_Tr 3 (s' := ((if (72 : Int32) ≤ y1 then 58 else 32), [(0, .ref 77), (1, .int y1)], [], st_mm s)) rfl (bi_Tif (fun hc => ?_) (fun hc => ?_))
  · have h := h.1 hc
    refine bi_Tr 2 (s' := (62, [(0, .ref 77), (1, .int y1)], [.int (st_g s 77 40)], st_mm s)) rfl ?_
    exact bi_Tv rfl rfl (Or.inl ⟨_, _, rfl, h⟩)
  · have h := h.2 hc
    refine bi_Tr 11 (s' := (50, [(0, .ref 77), (1, .int y1)], [.int (((72 : Int32) * (st_g s 77 40)) + y1), .ref 91, .int y1, .ref 90], st_mm s)) rfl ?_
    obtain ⟨hi, h⟩ := h
    refine bi_Tial rfl rfl rfl hi ?_
    obtain ⟨hi, h⟩ := h
    refine bi_Tias rfl rfl hi ?_
    refine bi_Tr 2 (s' := (26, [(1, .int (y1 + (1 : Int32))), (0, .ref 77)], [], st_mm (st_p s 90 (y1).toNatClampNeg (st_g s 91 ((((72 : Int32) * (st_g s 77 40)) + y1)).toNatClampNeg)))) rfl ?_
    exact bi_Tww h rfl rfl ⟨rfl, rfl, trivial⟩
/-- PolicyRowsModel.undo()I -/
theorem en_X12_undo {X : bi_X} {d : Nat} {K : Int32 → bi_St → Prop} {E : Nat → bi_St → Prop} {s : bi_St}   (h : ((¬ (st_g (st_p s 77 0 (0 : Int32)) 77 40) = 0) → at_X12_undo_26 X d K E (st_p (st_p s 77 0 (0 : Int32)) 77 40 ((st_g (st_p s 77 0 (0 : Int32)) 77 40) - (1 : Int32))) ((0 : Int32))) ∧ (¬ (¬ (st_g (st_p s 77 0 (0 : Int32)) 77 40) = 0) → K (-1 : Int32) (st_p s 77 0 (0 : Int32)))) : cI X d 206 [.ref 77] s K E := by
  show bi_T _ _ _ _ _
  refine bi_Tr 6 (s' := ((if ¬ (st_g (st_p s 77 0 (0 : Int32)) 77 40) = 0 then 14 else 12), [(0, .ref 77)], [], st_mm (st_p s 77 0 (0 : Int32)))) rfl (bi_Tif (fun hc => ?_) (fun hc => ?_))
  · have h := h.1 hc
    refine bi_Tr 8 (s' := (26, [(1, .int (0 : Int32)), (0, .ref 77)], [], st_mm (st_p (st_p s 77 0 (0 : Int32)) 77 40 ((st_g (st_p s 77 0 (0 : Int32)) 77 40) - (1 : Int32))))) rfl ?_
    exact bi_Tww h rfl rfl ⟨rfl, rfl, trivial⟩
  · have h := h.2 hc
    refine bi_Tr 1 (s' := (13, [(0, .ref 77)], [.int (-1 : Int32)], st_mm (st_p s 77 0 (0 : Int32)))) rfl ?_
    exact bi_Tv rfl rfl (Or.inl ⟨_, _, rfl, h⟩)
def at_X12_tries_2 (X : bi_X) (d : Nat) (K : bi_St → Prop) (E : Nat → bi_St → Prop) (s : bi_St) (y1 : Int32) : Prop := bi_T X d 207 (2, [(0, .ref 77), (1, .int y1)], [], st_mm s) (st_RV K E)
theorem go_X12_tries_2 {X : bi_X} {d : Nat} {K : bi_St → Prop} {E : Nat → bi_St → Prop}  {s : bi_St} {y1 : Int32}  (h : (((72 : Int32) ≤ y1) → K s) ∧ (¬ ((72 : Int32) ≤ y1) → bi_in y1 144 = true ∧ (bi_in ((72 : Int32) + y1) 144 = true ∧ (at_X12_tries_2 X d K E (st_p s 90 (((72 : Int32) + y1)).toNatClampNeg (st_g s 90 (y1).toNatClampNeg)) ((y1 + (1 : Int32))))))) : at_X12_tries_2 X d K E s y1 := by
  show bi_T _ _ _ _ _
  refine bi_Tr 3 (s' := ((if (72 : Int32) ≤ y1 then 29 else 8), [(0, .ref 77), (1, .int y1)], [], st_mm s)) rfl (bi_Tif (fun hc => ?_) (fun hc => ?_))
  · have h := h.1 hc
    exact bi_Tv rfl rfl (Or.inl ⟨_, rfl, h⟩)
  · have h := h.2 hc
    refine bi_Tr 8 (s' := (21, [(0, .ref 77), (1, .int y1)], [.int y1, .ref 90, .int ((72 : Int32) + y1), .ref 90], st_mm s)) rfl ?_
    obtain ⟨hi, h⟩ := h
    refine bi_Tial rfl rfl rfl hi ?_
    obtain ⟨hi, h⟩ := h
    refine bi_Tias rfl rfl hi ?_
    refine bi_Tr 2 (s' := (2, [(1, .int (y1 + (1 : Int32))), (0, .ref 77)], [], st_mm (st_p s 90 (((72 : Int32) + y1)).toNatClampNeg (st_g s 90 (y1).toNatClampNeg)))) rfl ?_
    exact bi_Tww h rfl rfl ⟨rfl, rfl, trivial⟩
/-- PolicyRowsModel.tries()V -/
theorem en_X12_tries {X : bi_X} {d : Nat} {K : bi_St → Prop} {E : Nat → bi_St → Prop} {s : bi_St}   (h : at_X12_tries_2 X d K E s ((0 : Int32))) : cV X d 207 [.ref 77] s K E := by
  show bi_T _ _ _ _ _
  refine bi_Tr 2 (s' := (2, [(1, .int (0 : Int32)), (0, .ref 77)], [], st_mm s)) rfl ?_
  exact bi_Tww h rfl rfl ⟨rfl, rfl, trivial⟩
def at_X12_hasOf_7 (X : bi_X) (d : Nat) (K : Int32 → bi_St → Prop) (E : Nat → bi_St → Prop) (s : bi_St) (y1 : Int32) (y3 : Int32) (y4 : Int32) : Prop := bi_T X d 208 (7, [(0, .ref 77), (1, .int y1), (3, .int y3), (4, .int y4)], [], st_mm s) (st_RI K E)
def at_X12_hasOf_19 (X : bi_X) (d : Nat) (K : Int32 → bi_St → Prop) (E : Nat → bi_St → Prop) (s : bi_St) (y1 : Int32) (y3 : Int32) (y4 : Int32) (y5 : Int32) : Prop := bi_T X d 208 (19, [(0, .ref 77), (1, .int y1), (3, .int y3), (4, .int y4), (5, .int y5)], [], st_mm s) (st_RI K E)
theorem go_X12_hasOf_7 {X : bi_X} {d : Nat} {K : Int32 → bi_St → Prop} {E : Nat → bi_St → Prop}  {s : bi_St} {y1 : Int32} {y3 : Int32} {y4 : Int32}  (h : ((y4 = y3) → K y3 s) ∧ (¬ (y4 = y3) → at_X12_hasOf_19 X d K E s (y1) (y3) (y3) ((0 : Int32)))) : at_X12_hasOf_7 X d K E s y1 y3 y4 := by
  show bi_T _ _ _ _ _
  refine bi_Tr 3 (s' := ((if y4 = y3 then 64 else 13), [(0, .ref 77), (1, .int y1), (3, .int y3), (4, .int y4)], [], st_mm s)) rfl (bi_Tif (fun hc => ?_) (fun hc => ?_))
  · have h := h.1 hc
    refine bi_Tr 1 (s' := (65, [(0, .ref 77), (1, .int y1), (3, .int y3), (4, .int y4)], [.int y3], st_mm s)) rfl ?_
    exact bi_Tv rfl rfl (Or.inl ⟨_, _, rfl, h⟩)
  · have h := h.2 hc
    refine bi_Tr 4 (s' := (19, [(5, .int (0 : Int32)), (4, .int y3), (0, .ref 77), (1, .int y1), (3, .int y3)], [], st_mm s)) rfl ?_
    exact bi_Tww h rfl rfl ⟨rfl, rfl, rfl, rfl, rfl, trivial⟩
theorem go_X12_hasOf_19 {X : bi_X} {d : Nat} {K : Int32 → bi_St → Prop} {E : Nat → bi_St → Prop}  {s : bi_St} {y1 : Int32} {y3 : Int32} {y4 : Int32} {y5 : Int32}  (h : (((st_g s 77 27) ≤ y5) → at_X12_hasOf_7 X d K E s (y1) (y3) (y4)) ∧ (¬ ((st_g s 77 27) ≤ y5) → ((¬ ((y4 >>> (y5 &&& 31)) &&& (1 : Int32)) = (1 : Int32)) → at_X12_hasOf_19 X d K E s (y1) ((y3 ||| (0 : Int32))) (y4) ((y5 + (1 : Int32)))) ∧ (¬ (¬ ((y4 >>> (y5 &&& 31)) &&& (1 : Int32)) = (1 : Int32)) → bi_in (y1 + y5) 144 = true ∧ (at_X12_hasOf_19 X d K E s (y1) ((y3 ||| (st_g s 90 ((y1 + y5)).toNatClampNeg))) (y4) ((y5 + (1 : Int32))))))) : at_X12_hasOf_19 X d K E s y1 y3 y4 y5 := by
  show bi_T _ _ _ _ _
  refine bi_Tr 4 (s' := ((if (st_g s 77 27) ≤ y5 then 61 else 28), [(0, .ref 77), (1, .int y1), (3, .int y3), (4, .int y4), (5, .int y5)], [], st_mm s)) rfl (bi_Tif (fun hc => ?_) (fun hc => ?_))
  · have h := h.1 hc
    refine bi_Tr 1 (s' := (7, [(0, .ref 77), (1, .int y1), (3, .int y3), (4, .int y4), (5, .int y5)], [], st_mm s)) rfl ?_
    exact bi_Tww h rfl rfl ⟨rfl, rfl, rfl, rfl, trivial⟩
  · have h := h.2 hc
    refine bi_Tr 8 (s' := ((if ¬ ((y4 >>> (y5 &&& 31)) &&& (1 : Int32)) = (1 : Int32) then 52 else 40), [(0, .ref 77), (1, .int y1), (3, .int y3), (4, .int y4), (5, .int y5)], [.int y3], st_mm s)) rfl (bi_Tif (fun hc => ?_) (fun hc => ?_))
    · have h := h.1 hc
      refine bi_Tr 5 (s' := (19, [(5, .int (y5 + (1 : Int32))), (3, .int (y3 ||| (0 : Int32))), (0, .ref 77), (1, .int y1), (4, .int y4)], [], st_mm s)) rfl ?_
      exact bi_Tww h rfl rfl ⟨rfl, rfl, rfl, rfl, rfl, trivial⟩
    · have h := h.2 hc
      refine bi_Tr 5 (s' := (48, [(0, .ref 77), (1, .int y1), (3, .int y3), (4, .int y4), (5, .int y5)], [.int (y1 + y5), .ref 90, .int y3], st_mm s)) rfl ?_
      obtain ⟨hi, h⟩ := h
      refine bi_Tial rfl rfl rfl hi ?_
      refine bi_Tr 5 (s' := (19, [(5, .int (y5 + (1 : Int32))), (3, .int (y3 ||| (st_g s 90 ((y1 + y5)).toNatClampNeg))), (0, .ref 77), (1, .int y1), (4, .int y4)], [], st_mm s)) rfl ?_
      exact bi_Tww h rfl rfl ⟨rfl, rfl, rfl, rfl, rfl, trivial⟩
/-- PolicyRowsModel.hasOf(II)I -/
theorem en_X12_hasOf {X : bi_X} {d : Nat} {K : Int32 → bi_St → Prop} {E : Nat → bi_St → Prop} {s : bi_St} {x0 : Int32} {x1 : Int32}  (h : at_X12_hasOf_7 X d K E s (x0) (((1 : Int32) <<< (x1 &&& 31))) ((0 : Int32))) : cI X d 208 [.ref 77, .int x0, .int x1] s K E := by
  show bi_T _ _ _ _ _
  refine bi_Tr 6 (s' := (7, [(4, .int (0 : Int32)), (3, .int ((1 : Int32) <<< (x1 &&& 31))), (0, .ref 77), (1, .int x0), (2, .int x1)], [], st_mm s)) rfl ?_
  exact bi_Tww h rfl rfl ⟨rfl, rfl, rfl, rfl, trivial⟩
/-- PolicyRowsModel.works(III)I -/
theorem en_X12_works {X : bi_X} {d : Nat} {K : Int32 → bi_St → Prop} {E : Nat → bi_St → Prop} {s : bi_St} {x0 : Int32} {x1 : Int32} {x2 : Int32}  (h : ((x0 = (4 : Int32)) → ((x1 = 0) → K (0 : Int32) s) ∧ (¬ (x1 = 0) → ((x2 = 0) → K (0 : Int32) s) ∧ (¬ (x2 = 0) → K (1 : Int32) s))) ∧ (¬ (x0 = (4 : Int32)) → ((x0 = (5 : Int32)) → ((¬ x1 = 0) → K (1 : Int32) s) ∧ (¬ (¬ x1 = 0) → ((x2 = 0) → K (0 : Int32) s) ∧ (¬ (x2 = 0) → K (1 : Int32) s))) ∧ (¬ (x0 = (5 : Int32)) → ((x0 = (6 : Int32)) → ((x2 ≤ x1) → K (0 : Int32) s) ∧ (¬ (x2 ≤ x1) → K (1 : Int32) s)) ∧ (¬ (x0 = (6 : Int32)) → ((x0 = (7 : Int32)) → ((¬ x1 = x2) → K (0 : Int32) s) ∧ (¬ (¬ x1 = x2) → K (1 : Int32) s)) ∧ (¬ (x0 = (7 : Int32)) → ((x0 = (8 : Int32)) → K (x1 + x2) s) ∧ (¬ (x0 = (8 : Int32)) → ((x0 = (9 : Int32)) → K (x1 - x2) s) ∧ (¬ (x0 = (9 : Int32)) → ((x0 = (10 : Int32)) → K (x1 * x2) s) ∧ (¬ (x0 = (10 : Int32)) → ((¬ x2 = 0) → ((¬ x2 = 0) → ¬ x2 = 0 ∧ (K (x1 / x2) s)) ∧ (¬ (¬ x2 = 0) → K (0 : Int32) s)) ∧ (¬ (¬ x2 = 0) → ((¬ x2 = 0) → ¬ x2 = 0 ∧ (K (x1 / x2) (st_p s 77 46 (1 : Int32)))) ∧ (¬ (¬ x2 = 0) → K (0 : Int32) (st_p s 77 46 (1 : Int32)))))))))))) : cI X d 209 [.ref 77, .int x0, .int x1, .int x2] s K E := by
  show bi_T _ _ _ _ _
  refine bi_Tr 1 (s' := (1, [(0, .ref 77), (1, .int x0), (2, .int x1), (3, .int x2)], [.int x0], st_mm s)) rfl ?_
  refine bi_Tsw rfl (fun t ht => ?_) (bi_swn (b := 106) rfl (by decide) (by decide))
  by_cases hc : x0 = (4 : Int32)
  · rw [hc] at ht; cases ht
    have h := h.1 hc
    refine bi_Tr 2 (s' := ((if x1 = 0 then 56 else 48), [(0, .ref 77), (1, .int x0), (2, .int x1), (3, .int x2)], [], st_mm s)) rfl (bi_Tif (fun hc => ?_) (fun hc => ?_))
    · have h := h.1 hc
      refine bi_Tr 1 (s' := (57, [(0, .ref 77), (1, .int x0), (2, .int x1), (3, .int x2)], [.int (0 : Int32)], st_mm s)) rfl ?_
      exact bi_Tv rfl rfl (Or.inl ⟨_, _, rfl, h⟩)
    · have h := h.2 hc
      refine bi_Tr 2 (s' := ((if x2 = 0 then 56 else 52), [(0, .ref 77), (1, .int x0), (2, .int x1), (3, .int x2)], [], st_mm s)) rfl (bi_Tif (fun hc => ?_) (fun hc => ?_))
      · have h := h.1 hc
        refine bi_Tr 1 (s' := (57, [(0, .ref 77), (1, .int x0), (2, .int x1), (3, .int x2)], [.int (0 : Int32)], st_mm s)) rfl ?_
        exact bi_Tv rfl rfl (Or.inl ⟨_, _, rfl, h⟩)
      · have h := h.2 hc
        refine bi_Tr 2 (s' := (57, [(0, .ref 77), (1, .int x0), (2, .int x1), (3, .int x2)], [.int (1 : Int32)], st_mm s)) rfl ?_
        exact bi_Tv rfl rfl (Or.inl ⟨_, _, rfl, h⟩)
  have h := h.2 hc
  have hn4 := lv_neT hc (a := 4) rfl
  by_cases hc : x0 = (5 : Int32)
  · rw [hc] at ht; cases ht
    have h := h.1 hc
    refine bi_Tr 2 (s' := ((if ¬ x1 = 0 then 66 else 62), [(0, .ref 77), (1, .int x0), (2, .int x1), (3, .int x2)], [], st_mm s)) rfl (bi_Tif (fun hc => ?_) (fun hc => ?_))
    · have h := h.1 hc
      refine bi_Tr 2 (s' := (71, [(0, .ref 77), (1, .int x0), (2, .int x1), (3, .int x2)], [.int (1 : Int32)], st_mm s)) rfl ?_
      exact bi_Tv rfl rfl (Or.inl ⟨_, _, rfl, h⟩)
    · have h := h.2 hc
      refine bi_Tr 2 (s' := ((if x2 = 0 then 70 else 66), [(0, .ref 77), (1, .int x0), (2, .int x1), (3, .int x2)], [], st_mm s)) rfl (bi_Tif (fun hc => ?_) (fun hc => ?_))
      · have h := h.1 hc
        refine bi_Tr 1 (s' := (71, [(0, .ref 77), (1, .int x0), (2, .int x1), (3, .int x2)], [.int (0 : Int32)], st_mm s)) rfl ?_
        exact bi_Tv rfl rfl (Or.inl ⟨_, _, rfl, h⟩)
      · have h := h.2 hc
        refine bi_Tr 2 (s' := (71, [(0, .ref 77), (1, .int x0), (2, .int x1), (3, .int x2)], [.int (1 : Int32)], st_mm s)) rfl ?_
        exact bi_Tv rfl rfl (Or.inl ⟨_, _, rfl, h⟩)
  have h := h.2 hc
  have hn5 := lv_neT hc (a := 5) rfl
  by_cases hc : x0 = (6 : Int32)
  · rw [hc] at ht; cases ht
    have h := h.1 hc
    refine bi_Tr 3 (s' := ((if x2 ≤ x1 then 81 else 77), [(0, .ref 77), (1, .int x0), (2, .int x1), (3, .int x2)], [], st_mm s)) rfl (bi_Tif (fun hc => ?_) (fun hc => ?_))
    · have h := h.1 hc
      refine bi_Tr 1 (s' := (82, [(0, .ref 77), (1, .int x0), (2, .int x1), (3, .int x2)], [.int (0 : Int32)], st_mm s)) rfl ?_
      exact bi_Tv rfl rfl (Or.inl ⟨_, _, rfl, h⟩)
    · have h := h.2 hc
      refine bi_Tr 2 (s' := (82, [(0, .ref 77), (1, .int x0), (2, .int x1), (3, .int x2)], [.int (1 : Int32)], st_mm s)) rfl ?_
      exact bi_Tv rfl rfl (Or.inl ⟨_, _, rfl, h⟩)
  have h := h.2 hc
  have hn6 := lv_neT hc (a := 6) rfl
  by_cases hc : x0 = (7 : Int32)
  · rw [hc] at ht; cases ht
    have h := h.1 hc
    refine bi_Tr 3 (s' := ((if ¬ x1 = x2 then 92 else 88), [(0, .ref 77), (1, .int x0), (2, .int x1), (3, .int x2)], [], st_mm s)) rfl (bi_Tif (fun hc => ?_) (fun hc => ?_))
    · have h := h.1 hc
      refine bi_Tr 1 (s' := (93, [(0, .ref 77), (1, .int x0), (2, .int x1), (3, .int x2)], [.int (0 : Int32)], st_mm s)) rfl ?_
      exact bi_Tv rfl rfl (Or.inl ⟨_, _, rfl, h⟩)
    · have h := h.2 hc
      refine bi_Tr 2 (s' := (93, [(0, .ref 77), (1, .int x0), (2, .int x1), (3, .int x2)], [.int (1 : Int32)], st_mm s)) rfl ?_
      exact bi_Tv rfl rfl (Or.inl ⟨_, _, rfl, h⟩)
  have h := h.2 hc
  have hn7 := lv_neT hc (a := 7) rfl
  by_cases hc : x0 = (8 : Int32)
  · rw [hc] at ht; cases ht
    have h := h.1 hc
    refine bi_Tr 3 (s' := (97, [(0, .ref 77), (1, .int x0), (2, .int x1), (3, .int x2)], [.int (x1 + x2)], st_mm s)) rfl ?_
    exact bi_Tv rfl rfl (Or.inl ⟨_, _, rfl, h⟩)
  have h := h.2 hc
  have hn8 := lv_neT hc (a := 8) rfl
  by_cases hc : x0 = (9 : Int32)
  · rw [hc] at ht; cases ht
    have h := h.1 hc
    refine bi_Tr 3 (s' := (101, [(0, .ref 77), (1, .int x0), (2, .int x1), (3, .int x2)], [.int (x1 - x2)], st_mm s)) rfl ?_
    exact bi_Tv rfl rfl (Or.inl ⟨_, _, rfl, h⟩)
  have h := h.2 hc
  have hn9 := lv_neT hc (a := 9) rfl
  by_cases hc : x0 = (10 : Int32)
  · rw [hc] at ht; cases ht
    have h := h.1 hc
    refine bi_Tr 3 (s' := (105, [(0, .ref 77), (1, .int x0), (2, .int x1), (3, .int x2)], [.int (x1 * x2)], st_mm s)) rfl ?_
    exact bi_Tv rfl rfl (Or.inl ⟨_, _, rfl, h⟩)
  have h := h.2 hc
  have hn10 := lv_neT hc (a := 10) rfl
  have ht : bi_tg 1 105 = some t := bi_swd ht (fun h1 h2 => by omega)
  cases ht
  refine bi_Tr 2 (s' := ((if ¬ x2 = 0 then 115 else 110), [(0, .ref 77), (1, .int x0), (2, .int x1), (3, .int x2)], [], st_mm s)) rfl (bi_Tif (fun hc => ?_) (fun hc => ?_))
  · have h := h.1 hc
    refine bi_Tr 2 (s' := ((if ¬ x2 = 0 then 123 else 119), [(0, .ref 77), (1, .int x0), (2, .int x1), (3, .int x2)], [], st_mm s)) rfl (bi_Tif (fun hc => ?_) (fun hc => ?_))
    · have h := h.1 hc
      refine bi_Tr 2 (s' := (125, [(0, .ref 77), (1, .int x0), (2, .int x1), (3, .int x2)], [.int x2, .int x1], st_mm s)) rfl ?_
      obtain ⟨hi, h⟩ := h
      refine bi_Tdiv rfl hi ?_
      exact bi_Tv rfl rfl (Or.inl ⟨_, _, rfl, h⟩)
    · have h := h.2 hc
      refine bi_Tr 2 (s' := (126, [(0, .ref 77), (1, .int x0), (2, .int x1), (3, .int x2)], [.int (0 : Int32)], st_mm s)) rfl ?_
      exact bi_Tv rfl rfl (Or.inl ⟨_, _, rfl, h⟩)
  · have h := h.2 hc
    refine bi_Tr 2 (s' := (112, [(0, .ref 77), (1, .int x0), (2, .int x1), (3, .int x2)], [.int (1 : Int32), .ref 77], st_mm s)) rfl ?_
    refine bi_Tpz rfl rfl rfl rfl rfl rfl ?_
    refine bi_Tr 2 (s' := ((if ¬ x2 = 0 then 123 else 119), [(0, .ref 77), (1, .int x0), (2, .int x1), (3, .int x2)], [], st_mm (st_p s 77 46 (1 : Int32)))) rfl (bi_Tif (fun hc => ?_) (fun hc => ?_))
    · have h := h.1 hc
      refine bi_Tr 2 (s' := (125, [(0, .ref 77), (1, .int x0), (2, .int x1), (3, .int x2)], [.int x2, .int x1], st_mm (st_p s 77 46 (1 : Int32)))) rfl ?_
      obtain ⟨hi, h⟩ := h
      refine bi_Tdiv rfl hi ?_
      exact bi_Tv rfl rfl (Or.inl ⟨_, _, rfl, h⟩)
    · have h := h.2 hc
      refine bi_Tr 2 (s' := (126, [(0, .ref 77), (1, .int x0), (2, .int x1), (3, .int x2)], [.int (0 : Int32)], st_mm (st_p s 77 46 (1 : Int32)))) rfl ?_
      exact bi_Tv rfl rfl (Or.inl ⟨_, _, rfl, h⟩)
def at_X12_doesHold_10 (X : bi_X) (d : Nat) (K : Int32 → bi_St → Prop) (E : Nat → bi_St → Prop) (s : bi_St) (y3 : Int32) (y4 : Int32) (b1 : Nat) : Prop := bi_T X d 210 (10, [(0, .ref 77), (1, .ref b1), (3, .int y3), (4, .int y4)], [], st_mm s) (st_RI K E)
def at_X12_doesHold_248 (X : bi_X) (d : Nat) (K : Int32 → bi_St → Prop) (E : Nat → bi_St → Prop) (s : bi_St)  : Prop := bi_T X d 210 (248, [], [], st_mm s) (st_RI K E)
def at_X12_doesHold_45 (X : bi_X) (d : Nat) (K : Int32 → bi_St → Prop) (E : Nat → bi_St → Prop) (s : bi_St) (y3 : Int32) (y4 : Int32) (y5 : Int32) (b1 : Nat) : Prop := bi_T X d 210 (45, [(0, .ref 77), (1, .ref b1), (3, .int y3), (4, .int y4), (5, .int y5)], [], st_mm s) (st_RI K E)
def at_X12_doesHold_225 (X : bi_X) (d : Nat) (K : Int32 → bi_St → Prop) (E : Nat → bi_St → Prop) (s : bi_St) (y3 : Int32) (y4 : Int32) (b1 : Nat) : Prop := bi_T X d 210 (225, [(0, .ref 77), (1, .ref b1), (3, .int y3), (4, .int y4)], [], st_mm s) (st_RI K E)
theorem go_X12_doesHold_10 {X : bi_X} {d : Nat} {K : Int32 → bi_St → Prop} {E : Nat → bi_St → Prop} {a0 n0 : Nat} {s : bi_St} {y3 : Int32} {y4 : Int32} {b1 : Nat} (hc1 : ∀ s : bi_St, bi_kd (st_mm s) b1 = (14, n0)) (hd1 : Nat.beq b1 4999 = false) (h : bi_in y4 n0 = true ∧ ((((st_g s b1 (y4).toNatClampNeg) = 0) → ((¬ (st_g s 77 46) = 0) → at_X12_doesHold_248 X (d + 1) K E s) ∧ (¬ (¬ (st_g s 77 46) = 0) → bi_in (0 : Int32) 950 = true ∧ ((((st_g s 93 ((0 : Int32)).toNatClampNeg) = 0) → at_X12_doesHold_248 X (d + 1) K E s) ∧ (¬ ((st_g s 93 ((0 : Int32)).toNatClampNeg) = 0) → K (1 : Int32) s)))) ∧ (¬ ((st_g s b1 (y4).toNatClampNeg) = 0) → bi_in y4 n0 = true ∧ ((((st_g s b1 (y4).toNatClampNeg) = (1 : Int32)) → at_X12_doesHold_45 X (d + 1) K E s (y3) ((y4 + (1 : Int32))) ((st_g s b1 (y4).toNatClampNeg)) (b1)) ∧ (¬ ((st_g s b1 (y4).toNatClampNeg) = (1 : Int32)) → (((st_g s b1 (y4).toNatClampNeg) = (2 : Int32)) → at_X12_doesHold_45 X (d + 1) K E s (y3) ((y4 + (1 : Int32))) ((st_g s b1 (y4).toNatClampNeg)) (b1)) ∧ (¬ ((st_g s b1 (y4).toNatClampNeg) = (2 : Int32)) → ((¬ (st_g s b1 (y4).toNatClampNeg) = (12 : Int32)) → ((¬ (st_g s b1 (y4).toNatClampNeg) = (3 : Int32)) → ((¬ (st_g s b1 (y4).toNatClampNeg) = (13 : Int32)) → bi_in ((y3 + (-1 : Int32)) - (1 : Int32)) 950 = true ∧ (bi_in (y3 + (-1 : Int32)) 950 = true ∧ (cI X d 209 [.ref 77, .int (st_g s b1 (y4).toNatClampNeg), .int (st_g s 93 (((y3 + (-1 : Int32)) - (1 : Int32))).toNatClampNeg), .int (st_g s 93 ((y3 + (-1 : Int32))).toNatClampNeg)] s (fun (r1 : Int32) (s1 : bi_St) => bi_in ((y3 + (-1 : Int32)) - (1 : Int32)) 950 = true ∧ (at_X12_doesHold_225 X (d + 1) K E (st_p s1 93 (((y3 + (-1 : Int32)) - (1 : Int32))).toNatClampNeg r1) ((y3 + (-1 : Int32))) ((y4 + (1 : Int32))) (b1))) (fun _ _ => False)))) ∧ (¬ (¬ (st_g s b1 (y4).toNatClampNeg) = (13 : Int32)) → (((st_g s 77 47) = 0) → (((st_g (st_p s 77 44 ((st_g s 77 44) + (0 : Int32))) 77 47) = 0) → at_X12_doesHold_225 X (d + 1) K E (st_p (st_p s 77 44 ((st_g s 77 44) + (0 : Int32))) 77 45 ((st_g (st_p s 77 44 ((st_g s 77 44) + (0 : Int32))) 77 45) + (0 : Int32))) (y3) ((y4 + (1 : Int32))) (b1)) ∧ (¬ ((st_g (st_p s 77 44 ((st_g s 77 44) + (0 : Int32))) 77 47) = 0) → bi_in (y3 - (1 : Int32)) 950 = true ∧ (at_X12_doesHold_225 X (d + 1) K E (st_p (st_p s 77 44 ((st_g s 77 44) + (0 : Int32))) 77 45 ((st_g (st_p s 77 44 ((st_g s 77 44) + (0 : Int32))) 77 45) + (st_g (st_p s 77 44 ((st_g s 77 44) + (0 : Int32))) 93 ((y3 - (1 : Int32))).toNatClampNeg))) (y3) ((y4 + (1 : Int32))) (b1)))) ∧ (¬ ((st_g s 77 47) = 0) → (((st_g (st_p s 77 44 ((st_g s 77 44) + (1 : Int32))) 77 47) = 0) → at_X12_doesHold_225 X (d + 1) K E (st_p (st_p s 77 44 ((st_g s 77 44) + (1 : Int32))) 77 45 ((st_g (st_p s 77 44 ((st_g s 77 44) + (1 : Int32))) 77 45) + (0 : Int32))) (y3) ((y4 + (1 : Int32))) (b1)) ∧ (¬ ((st_g (st_p s 77 44 ((st_g s 77 44) + (1 : Int32))) 77 47) = 0) → bi_in (y3 - (1 : Int32)) 950 = true ∧ (at_X12_doesHold_225 X (d + 1) K E (st_p (st_p s 77 44 ((st_g s 77 44) + (1 : Int32))) 77 45 ((st_g (st_p s 77 44 ((st_g s 77 44) + (1 : Int32))) 77 45) + (st_g (st_p s 77 44 ((st_g s 77 44) + (1 : Int32))) 93 ((y3 - (1 : Int32))).toNatClampNeg))) (y3) ((y4 + (1 : Int32))) (b1)))))) ∧ (¬ (¬ (st_g s b1 (y4).toNatClampNeg) = (3 : Int32)) → bi_in (y3 - (1 : Int32)) 950 = true ∧ (((¬ (st_g s 93 ((y3 - (1 : Int32))).toNatClampNeg) = 0) → bi_in (y3 - (1 : Int32)) 950 = true ∧ (at_X12_doesHold_225 X (d + 1) K E (st_p s 93 ((y3 - (1 : Int32))).toNatClampNeg (0 : Int32)) (y3) ((y4 + (1 : Int32))) (b1))) ∧ (¬ (¬ (st_g s 93 ((y3 - (1 : Int32))).toNatClampNeg) = 0) → bi_in (y3 - (1 : Int32)) 950 = true ∧ (at_X12_doesHold_225 X (d + 1) K E (st_p s 93 ((y3 - (1 : Int32))).toNatClampNeg (1 : Int32)) (y3) ((y4 + (1 : Int32))) (b1)))))) ∧ (¬ (¬ (st_g s b1 (y4).toNatClampNeg) = (12 : Int32)) → at_X12_doesHold_45 X (d + 1) K E s (y3) ((y4 + (1 : Int32))) ((st_g s b1 (y4).toNatClampNeg)) (b1)))))))) : at_X12_doesHold_10 X (d + 1) K E s y3 y4 b1 := by
  show bi_T _ _ _ _ _
  refine bi_Tr 2 (s' := (13, [(0, .ref 77), (1, .ref b1), (3, .int y3), (4, .int y4)], [.int y4, .ref b1], st_mm s)) rfl ?_
  obtain ⟨hi, h⟩ := h
  refine bi_Tial rfl hd1 (hc1 _) hi ?_
  refine bi_Tr 1 (s' := ((if (st_g s b1 (y4).toNatClampNeg) = 0 then 228 else 17), [(0, .ref 77), (1, .ref b1), (3, .int y3), (4, .int y4)], [], st_mm s)) rfl (bi_Tif (fun hc => ?_) (fun hc => ?_))
  · have h := h.1 hc
    refine bi_Tr 3 (s' := ((if ¬ (st_g s 77 46) = 0 then 248 else 235), [(0, .ref 77), (1, .ref b1), (3, .int y3), (4, .int y4)], [], st_mm s)) rfl (bi_Tif (fun hc => ?_) (fun hc => ?_))
    · have h := h.1 hc
      exact bi_Tww h rfl rfl trivial
    · have h := h.2 hc
      refine bi_Tr 3 (s' := (240, [(0, .ref 77), (1, .ref b1), (3, .int y3), (4, .int y4)], [.int (0 : Int32), .ref 93], st_mm s)) rfl ?_
      obtain ⟨hi, h⟩ := h
      refine bi_Tial rfl rfl rfl hi ?_
      refine bi_Tr 1 (s' := ((if (st_g s 93 ((0 : Int32)).toNatClampNeg) = 0 then 248 else 244), [(0, .ref 77), (1, .ref b1), (3, .int y3), (4, .int y4)], [], st_mm s)) rfl (bi_Tif (fun hc => ?_) (fun hc => ?_))
      · have h := h.1 hc
        exact bi_Tww h rfl rfl trivial
      · have h := h.2 hc
        refine bi_Tr 2 (s' := (249, [(0, .ref 77), (1, .ref b1), (3, .int y3), (4, .int y4)], [.int (1 : Int32)], st_mm s)) rfl ?_
        exact bi_Tv rfl rfl (Or.inl ⟨_, _, rfl, h⟩)
  · have h := h.2 hc
    refine bi_Tr 2 (s' := (20, [(0, .ref 77), (1, .ref b1), (3, .int y3), (4, .int y4)], [.int y4, .ref b1], st_mm s)) rfl ?_
    obtain ⟨hi, h⟩ := h
    refine bi_Tial rfl hd1 (hc1 _) hi ?_
    refine bi_Tr 5 (s' := ((if (st_g s b1 (y4).toNatClampNeg) = (1 : Int32) then 45 else 32), [(4, .int (y4 + (1 : Int32))), (5, .int (st_g s b1 (y4).toNatClampNeg)), (0, .ref 77), (1, .ref b1), (3, .int y3)], [], st_mm s)) rfl (bi_Tif (fun hc => ?_) (fun hc => ?_))
    · have h := h.1 hc
      exact bi_Tww h rfl rfl ⟨rfl, rfl, rfl, rfl, rfl, trivial⟩
    · have h := h.2 hc
      refine bi_Tr 3 (s' := ((if (st_g s b1 (y4).toNatClampNeg) = (2 : Int32) then 45 else 38), [(4, .int (y4 + (1 : Int32))), (5, .int (st_g s b1 (y4).toNatClampNeg)), (0, .ref 77), (1, .ref b1), (3, .int y3)], [], st_mm s)) rfl (bi_Tif (fun hc => ?_) (fun hc => ?_))
      · have h := h.1 hc
        exact bi_Tww h rfl rfl ⟨rfl, rfl, rfl, rfl, rfl, trivial⟩
      · have h := h.2 hc
        refine bi_Tr 3 (s' := ((if ¬ (st_g s b1 (y4).toNatClampNeg) = (12 : Int32) then 102 else 45), [(4, .int (y4 + (1 : Int32))), (5, .int (st_g s b1 (y4).toNatClampNeg)), (0, .ref 77), (1, .ref b1), (3, .int y3)], [], st_mm s)) rfl (bi_Tif (fun hc => ?_) (fun hc => ?_))
        · have h := h.1 hc
          refine bi_Tr 3 (s' := ((if ¬ (st_g s b1 (y4).toNatClampNeg) = (3 : Int32) then 135 else 108), [(4, .int (y4 + (1 : Int32))), (5, .int (st_g s b1 (y4).toNatClampNeg)), (0, .ref 77), (1, .ref b1), (3, .int y3)], [], st_mm s)) rfl (bi_Tif (fun hc => ?_) (fun hc => ?_))
          · have h := h.1 hc
            refine bi_Tr 3 (s' := ((if ¬ (st_g s b1 (y4).toNatClampNeg) = (13 : Int32) then 194 else 142), [(4, .int (y4 + (1 : Int32))), (5, .int (st_g s b1 (y4).toNatClampNeg)), (0, .ref 77), (1, .ref b1), (3, .int y3)], [], st_mm s)) rfl (bi_Tif (fun hc => ?_) (fun hc => ?_))
            · have h := h.1 hc
              refine bi_Tr 13 (s' := (214, [(3, .int (y3 + (-1 : Int32))), (4, .int (y4 + (1 : Int32))), (5, .int (st_g s b1 (y4).toNatClampNeg)), (0, .ref 77), (1, .ref b1)], [.int ((y3 + (-1 : Int32)) - (1 : Int32)), .ref 93, .int (st_g s b1 (y4).toNatClampNeg), .ref 77, .int ((y3 + (-1 : Int32)) - (1 : Int32)), .ref 93], st_mm s)) rfl ?_
              obtain ⟨hi, h⟩ := h
              refine bi_Tial rfl rfl rfl hi ?_
              refine bi_Tr 3 (s' := (220, [(3, .int (y3 + (-1 : Int32))), (4, .int (y4 + (1 : Int32))), (5, .int (st_g s b1 (y4).toNatClampNeg)), (0, .ref 77), (1, .ref b1)], [.int (y3 + (-1 : Int32)), .ref 93, .int (st_g s 93 (((y3 + (-1 : Int32)) - (1 : Int32))).toNatClampNeg), .int (st_g s b1 (y4).toNatClampNeg), .ref 77, .int ((y3 + (-1 : Int32)) - (1 : Int32)), .ref 93], st_mm s)) rfl ?_
              obtain ⟨hi, h⟩ := h
              refine bi_Tial rfl rfl rfl hi ?_
              refine bi_TcI (as := [.ref 77, .int (st_g s b1 (y4).toNatClampNeg), .int (st_g s 93 (((y3 + (-1 : Int32)) - (1 : Int32))).toNatClampNeg), .int (st_g s 93 ((y3 + (-1 : Int32))).toNatClampNeg)]) rfl rfl ?_
              refine cI.mono h (fun r1 s1 h => ?_) (fun _ _ h => h.elim)
              obtain ⟨hi, h⟩ := h
              refine bi_Tias rfl rfl hi ?_
              exact bi_Tww h rfl rfl ⟨rfl, rfl, rfl, rfl, trivial⟩
            · have h := h.2 hc
              refine bi_Tr 6 (s' := ((if (st_g s 77 47) = 0 then 158 else 154), [(4, .int (y4 + (1 : Int32))), (5, .int (st_g s b1 (y4).toNatClampNeg)), (0, .ref 77), (1, .ref b1), (3, .int y3)], [.int (st_g s 77 44), .ref 77], st_mm s)) rfl (bi_Tif (fun hc => ?_) (fun hc => ?_))
              · have h := h.1 hc
                refine bi_Tr 9 (s' := ((if (st_g (st_p s 77 44 ((st_g s 77 44) + (0 : Int32))) 77 47) = 0 then 186 else 175), [(4, .int (y4 + (1 : Int32))), (5, .int (st_g s b1 (y4).toNatClampNeg)), (0, .ref 77), (1, .ref b1), (3, .int y3)], [.int (st_g (st_p s 77 44 ((st_g s 77 44) + (0 : Int32))) 77 45), .ref 77], st_mm (st_p s 77 44 ((st_g s 77 44) + (0 : Int32))))) rfl (bi_Tif (fun hc => ?_) (fun hc => ?_))
                · have h := h.1 hc
                  refine bi_Tr 4 (s' := (225, [(4, .int (y4 + (1 : Int32))), (5, .int (st_g s b1 (y4).toNatClampNeg)), (0, .ref 77), (1, .ref b1), (3, .int y3)], [], st_mm (st_p (st_p s 77 44 ((st_g s 77 44) + (0 : Int32))) 77 45 ((st_g (st_p s 77 44 ((st_g s 77 44) + (0 : Int32))) 77 45) + (0 : Int32))))) rfl ?_
                  exact bi_Tww h rfl rfl ⟨rfl, rfl, rfl, rfl, trivial⟩
                · have h := h.2 hc
                  refine bi_Tr 5 (s' := (182, [(4, .int (y4 + (1 : Int32))), (5, .int (st_g s b1 (y4).toNatClampNeg)), (0, .ref 77), (1, .ref b1), (3, .int y3)], [.int (y3 - (1 : Int32)), .ref 93, .int (st_g (st_p s 77 44 ((st_g s 77 44) + (0 : Int32))) 77 45), .ref 77], st_mm (st_p s 77 44 ((st_g s 77 44) + (0 : Int32))))) rfl ?_
                  obtain ⟨hi, h⟩ := h
                  refine bi_Tial rfl rfl rfl hi ?_
                  refine bi_Tr 4 (s' := (225, [(4, .int (y4 + (1 : Int32))), (5, .int (st_g s b1 (y4).toNatClampNeg)), (0, .ref 77), (1, .ref b1), (3, .int y3)], [], st_mm (st_p (st_p s 77 44 ((st_g s 77 44) + (0 : Int32))) 77 45 ((st_g (st_p s 77 44 ((st_g s 77 44) + (0 : Int32))) 77 45) + (st_g (st_p s 77 44 ((st_g s 77 44) + (0 : Int32))) 93 ((y3 - (1 : Int32))).toNatClampNeg))))) rfl ?_
                  exact bi_Tww h rfl rfl ⟨rfl, rfl, rfl, rfl, trivial⟩
              · have h := h.2 hc
                refine bi_Tr 10 (s' := ((if (st_g (st_p s 77 44 ((st_g s 77 44) + (1 : Int32))) 77 47) = 0 then 186 else 175), [(4, .int (y4 + (1 : Int32))), (5, .int (st_g s b1 (y4).toNatClampNeg)), (0, .ref 77), (1, .ref b1), (3, .int y3)], [.int (st_g (st_p s 77 44 ((st_g s 77 44) + (1 : Int32))) 77 45), .ref 77], st_mm (st_p s 77 44 ((st_g s 77 44) + (1 : Int32))))) rfl (bi_Tif (fun hc => ?_) (fun hc => ?_))
                · have h := h.1 hc
                  refine bi_Tr 4 (s' := (225, [(4, .int (y4 + (1 : Int32))), (5, .int (st_g s b1 (y4).toNatClampNeg)), (0, .ref 77), (1, .ref b1), (3, .int y3)], [], st_mm (st_p (st_p s 77 44 ((st_g s 77 44) + (1 : Int32))) 77 45 ((st_g (st_p s 77 44 ((st_g s 77 44) + (1 : Int32))) 77 45) + (0 : Int32))))) rfl ?_
                  exact bi_Tww h rfl rfl ⟨rfl, rfl, rfl, rfl, trivial⟩
                · have h := h.2 hc
                  refine bi_Tr 5 (s' := (182, [(4, .int (y4 + (1 : Int32))), (5, .int (st_g s b1 (y4).toNatClampNeg)), (0, .ref 77), (1, .ref b1), (3, .int y3)], [.int (y3 - (1 : Int32)), .ref 93, .int (st_g (st_p s 77 44 ((st_g s 77 44) + (1 : Int32))) 77 45), .ref 77], st_mm (st_p s 77 44 ((st_g s 77 44) + (1 : Int32))))) rfl ?_
                  obtain ⟨hi, h⟩ := h
                  refine bi_Tial rfl rfl rfl hi ?_
                  refine bi_Tr 4 (s' := (225, [(4, .int (y4 + (1 : Int32))), (5, .int (st_g s b1 (y4).toNatClampNeg)), (0, .ref 77), (1, .ref b1), (3, .int y3)], [], st_mm (st_p (st_p s 77 44 ((st_g s 77 44) + (1 : Int32))) 77 45 ((st_g (st_p s 77 44 ((st_g s 77 44) + (1 : Int32))) 77 45) + (st_g (st_p s 77 44 ((st_g s 77 44) + (1 : Int32))) 93 ((y3 - (1 : Int32))).toNatClampNeg))))) rfl ?_
                  exact bi_Tww h rfl rfl ⟨rfl, rfl, rfl, rfl, trivial⟩
          · have h := h.2 hc
            refine bi_Tr 10 (s' := (122, [(4, .int (y4 + (1 : Int32))), (5, .int (st_g s b1 (y4).toNatClampNeg)), (0, .ref 77), (1, .ref b1), (3, .int y3)], [.int (y3 - (1 : Int32)), .ref 93, .int (y3 - (1 : Int32)), .ref 93], st_mm s)) rfl ?_
            obtain ⟨hi, h⟩ := h
            refine bi_Tial rfl rfl rfl hi ?_
            refine bi_Tr 1 (s' := ((if ¬ (st_g s 93 ((y3 - (1 : Int32))).toNatClampNeg) = 0 then 130 else 126), [(4, .int (y4 + (1 : Int32))), (5, .int (st_g s b1 (y4).toNatClampNeg)), (0, .ref 77), (1, .ref b1), (3, .int y3)], [.int (y3 - (1 : Int32)), .ref 93], st_mm s)) rfl (bi_Tif (fun hc => ?_) (fun hc => ?_))
            · have h := h.1 hc
              refine bi_Tr 1 (s' := (131, [(4, .int (y4 + (1 : Int32))), (5, .int (st_g s b1 (y4).toNatClampNeg)), (0, .ref 77), (1, .ref b1), (3, .int y3)], [.int (0 : Int32), .int (y3 - (1 : Int32)), .ref 93], st_mm s)) rfl ?_
              obtain ⟨hi, h⟩ := h
              refine bi_Tias rfl rfl hi ?_
              refine bi_Tr 1 (s' := (225, [(4, .int (y4 + (1 : Int32))), (5, .int (st_g s b1 (y4).toNatClampNeg)), (0, .ref 77), (1, .ref b1), (3, .int y3)], [], st_mm (st_p s 93 ((y3 - (1 : Int32))).toNatClampNeg (0 : Int32)))) rfl ?_
              exact bi_Tww h rfl rfl ⟨rfl, rfl, rfl, rfl, trivial⟩
            · have h := h.2 hc
              refine bi_Tr 2 (s' := (131, [(4, .int (y4 + (1 : Int32))), (5, .int (st_g s b1 (y4).toNatClampNeg)), (0, .ref 77), (1, .ref b1), (3, .int y3)], [.int (1 : Int32), .int (y3 - (1 : Int32)), .ref 93], st_mm s)) rfl ?_
              obtain ⟨hi, h⟩ := h
              refine bi_Tias rfl rfl hi ?_
              refine bi_Tr 1 (s' := (225, [(4, .int (y4 + (1 : Int32))), (5, .int (st_g s b1 (y4).toNatClampNeg)), (0, .ref 77), (1, .ref b1), (3, .int y3)], [], st_mm (st_p s 93 ((y3 - (1 : Int32))).toNatClampNeg (1 : Int32)))) rfl ?_
              exact bi_Tww h rfl rfl ⟨rfl, rfl, rfl, rfl, trivial⟩
        · have h := h.2 hc
          exact bi_Tww h rfl rfl ⟨rfl, rfl, rfl, rfl, rfl, trivial⟩
theorem go_X12_doesHold_248 {X : bi_X} {d : Nat} {K : Int32 → bi_St → Prop} {E : Nat → bi_St → Prop} {a0 n0 : Nat} {s : bi_St}   (h : K (0 : Int32) s) : at_X12_doesHold_248 X (d + 1) K E s  := by
  show bi_T _ _ _ _ _
  refine bi_Tr 1 (s' := (249, [], [.int (0 : Int32)], st_mm s)) rfl ?_
  exact bi_Tv rfl rfl (Or.inl ⟨_, _, rfl, h⟩)
theorem go_X12_doesHold_45 {X : bi_X} {d : Nat} {K : Int32 → bi_St → Prop} {E : Nat → bi_St → Prop} {a0 n0 : Nat} {s : bi_St} {y3 : Int32} {y4 : Int32} {y5 : Int32} {b1 : Nat} (hc1 : ∀ s : bi_St, bi_kd (st_mm s) b1 = (14, n0)) (hd1 : Nat.beq b1 4999 = false) (h : ((¬ y5 = (1 : Int32)) → ((¬ y5 = (2 : Int32)) → bi_in y4 n0 = true ∧ (bi_in y3 950 = true ∧ (at_X12_doesHold_225 X (d + 1) K E (st_p s 93 (y3).toNatClampNeg (((st_g s 77 43) >>> ((st_g s b1 (y4).toNatClampNeg) &&& 31)) &&& (1 : Int32))) ((y3 + (1 : Int32))) ((y4 + (1 : Int32))) (b1)))) ∧ (¬ (¬ y5 = (2 : Int32)) → bi_in y4 n0 = true ∧ (bi_in (st_g s b1 (y4).toNatClampNeg) 5 = true ∧ (bi_in y3 950 = true ∧ (at_X12_doesHold_225 X (d + 1) K E (st_p s 93 (y3).toNatClampNeg (st_g s 92 ((st_g s b1 (y4).toNatClampNeg)).toNatClampNeg)) ((y3 + (1 : Int32))) ((y4 + (1 : Int32))) (b1)))))) ∧ (¬ (¬ y5 = (1 : Int32)) → bi_in y4 n0 = true ∧ (bi_in y3 950 = true ∧ (at_X12_doesHold_225 X (d + 1) K E (st_p s 93 (y3).toNatClampNeg (st_g s b1 (y4).toNatClampNeg)) ((y3 + (1 : Int32))) ((y4 + (1 : Int32))) (b1))))) : at_X12_doesHold_45 X (d + 1) K E s y3 y4 y5 b1 := by
  show bi_T _ _ _ _ _
  refine bi_Tr 6 (s' := ((if ¬ y5 = (1 : Int32) then 63 else 56), [(0, .ref 77), (1, .ref b1), (3, .int y3), (4, .int y4), (5, .int y5)], [.int y3, .ref 93], st_mm s)) rfl (bi_Tif (fun hc => ?_) (fun hc => ?_))
  · have h := h.1 hc
    refine bi_Tr 3 (s' := ((if ¬ y5 = (2 : Int32) then 81 else 69), [(0, .ref 77), (1, .ref b1), (3, .int y3), (4, .int y4), (5, .int y5)], [.int y3, .ref 93], st_mm s)) rfl (bi_Tif (fun hc => ?_) (fun hc => ?_))
    · have h := h.1 hc
      refine bi_Tr 4 (s' := (88, [(0, .ref 77), (1, .ref b1), (3, .int y3), (4, .int y4), (5, .int y5)], [.int y4, .ref b1, .int (st_g s 77 43), .int y3, .ref 93], st_mm s)) rfl ?_
      obtain ⟨hi, h⟩ := h
      refine bi_Tial rfl hd1 (hc1 _) hi ?_
      refine bi_Tr 3 (s' := (92, [(0, .ref 77), (1, .ref b1), (3, .int y3), (4, .int y4), (5, .int y5)], [.int (((st_g s 77 43) >>> ((st_g s b1 (y4).toNatClampNeg) &&& 31)) &&& (1 : Int32)), .int y3, .ref 93], st_mm s)) rfl ?_
      obtain ⟨hi, h⟩ := h
      refine bi_Tias rfl rfl hi ?_
      refine bi_Tr 3 (s' := (225, [(3, .int (y3 + (1 : Int32))), (4, .int (y4 + (1 : Int32))), (0, .ref 77), (1, .ref b1), (5, .int y5)], [], st_mm (st_p s 93 (y3).toNatClampNeg (((st_g s 77 43) >>> ((st_g s b1 (y4).toNatClampNeg) &&& 31)) &&& (1 : Int32))))) rfl ?_
      exact bi_Tww h rfl rfl ⟨rfl, rfl, rfl, rfl, trivial⟩
    · have h := h.2 hc
      refine bi_Tr 4 (s' := (76, [(0, .ref 77), (1, .ref b1), (3, .int y3), (4, .int y4), (5, .int y5)], [.int y4, .ref b1, .ref 92, .int y3, .ref 93], st_mm s)) rfl ?_
      obtain ⟨hi, h⟩ := h
      refine bi_Tial rfl hd1 (hc1 _) hi ?_
      obtain ⟨hi, h⟩ := h
      refine bi_Tial rfl rfl rfl hi ?_
      refine bi_Tr 1 (s' := (92, [(0, .ref 77), (1, .ref b1), (3, .int y3), (4, .int y4), (5, .int y5)], [.int (st_g s 92 ((st_g s b1 (y4).toNatClampNeg)).toNatClampNeg), .int y3, .ref 93], st_mm s)) rfl ?_
      obtain ⟨hi, h⟩ := h
      refine bi_Tias rfl rfl hi ?_
      refine bi_Tr 3 (s' := (225, [(3, .int (y3 + (1 : Int32))), (4, .int (y4 + (1 : Int32))), (0, .ref 77), (1, .ref b1), (5, .int y5)], [], st_mm (st_p s 93 (y3).toNatClampNeg (st_g s 92 ((st_g s b1 (y4).toNatClampNeg)).toNatClampNeg)))) rfl ?_
      exact bi_Tww h rfl rfl ⟨rfl, rfl, rfl, rfl, trivial⟩
  · have h := h.2 hc
    refine bi_Tr 2 (s' := (59, [(0, .ref 77), (1, .ref b1), (3, .int y3), (4, .int y4), (5, .int y5)], [.int y4, .ref b1, .int y3, .ref 93], st_mm s)) rfl ?_
    obtain ⟨hi, h⟩ := h
    refine bi_Tial rfl hd1 (hc1 _) hi ?_
    refine bi_Tr 1 (s' := (92, [(0, .ref 77), (1, .ref b1), (3, .int y3), (4, .int y4), (5, .int y5)], [.int (st_g s b1 (y4).toNatClampNeg), .int y3, .ref 93], st_mm s)) rfl ?_
    obtain ⟨hi, h⟩ := h
    refine bi_Tias rfl rfl hi ?_
    refine bi_Tr 3 (s' := (225, [(3, .int (y3 + (1 : Int32))), (4, .int (y4 + (1 : Int32))), (0, .ref 77), (1, .ref b1), (5, .int y5)], [], st_mm (st_p s 93 (y3).toNatClampNeg (st_g s b1 (y4).toNatClampNeg)))) rfl ?_
    exact bi_Tww h rfl rfl ⟨rfl, rfl, rfl, rfl, trivial⟩
theorem go_X12_doesHold_225 {X : bi_X} {d : Nat} {K : Int32 → bi_St → Prop} {E : Nat → bi_St → Prop} {a0 n0 : Nat} {s : bi_St} {y3 : Int32} {y4 : Int32} {b1 : Nat} (hc1 : ∀ s : bi_St, bi_kd (st_mm s) b1 = (14, n0)) (hd1 : Nat.beq b1 4999 = false) (h : at_X12_doesHold_10 X (d + 1) K E s (y3) (y4) (b1)) : at_X12_doesHold_225 X (d + 1) K E s y3 y4 b1 := by
  show bi_T _ _ _ _ _
  refine bi_Tr 1 (s' := (10, [(0, .ref 77), (1, .ref b1), (3, .int y3), (4, .int y4)], [], st_mm s)) rfl ?_
  exact bi_Tww h rfl rfl ⟨rfl, rfl, rfl, rfl, trivial⟩
/-- PolicyRowsModel.doesHold([II)Z -/
theorem en_X12_doesHold {X : bi_X} {d : Nat} {K : Int32 → bi_St → Prop} {E : Nat → bi_St → Prop} {s : bi_St} {a0 n0 : Nat} {x1 : Int32} (ha0 : ∀ s : bi_St, bi_kd (st_mm s) a0 = (14, n0)) (hb0 : Nat.beq a0 4999 = false) (h : at_X12_doesHold_10 X (d + 1) K E (st_p s 77 46 (0 : Int32)) ((0 : Int32)) (x1) (a0)) : cI X (d + 1) 210 [.ref 77, .ref a0, .int x1] s K E := by
  show bi_T _ _ _ _ _
  refine bi_Tr 6 (s' := (7, [(4, .int x1), (3, .int (0 : Int32)), (0, .ref 77), (1, .ref a0), (2, .int x1)], [.int (0 : Int32), .ref 77], st_mm s)) rfl ?_
  refine bi_Tpz rfl rfl rfl rfl rfl rfl ?_
  exact bi_Tww h rfl rfl ⟨rfl, rfl, rfl, rfl, trivial⟩
/-- PolicyRowsModel.laysUser(II)V -/
theorem en_X12_laysUser {X : bi_X} {d : Nat} {K : bi_St → Prop} {E : Nat → bi_St → Prop} {s : bi_St} {x0 : Int32} {x1 : Int32}  (h : bi_in (4 : Int32) 5 = true ∧ (cI X d 208 [.ref 77, .int x0, .int x1] (st_p s 92 ((4 : Int32)).toNatClampNeg x1) (fun (r1 : Int32) (s1 : bi_St) => K (st_p s1 77 43 r1)) (fun _ _ => False))) : cV X (d + 1) 211 [.ref 77, .int x0, .int x1] s K E := by
  show bi_T _ _ _ _ _
  refine bi_Tr 4 (s' := (6, [(0, .ref 77), (1, .int x0), (2, .int x1)], [.int x1, .int (4 : Int32), .ref 92], st_mm s)) rfl ?_
  obtain ⟨hi, h⟩ := h
  refine bi_Tias rfl rfl hi ?_
  refine bi_Tr 4 (s' := (11, [(0, .ref 77), (1, .int x0), (2, .int x1)], [.int x1, .int x0, .ref 77, .ref 77], st_mm (st_p s 92 ((4 : Int32)).toNatClampNeg x1))) rfl ?_
  refine bi_TcI (as := [.ref 77, .int x0, .int x1]) rfl rfl ?_
  refine cI.mono h (fun r1 s1 h => ?_) (fun _ _ h => h.elim)
  refine bi_Tr 1 (s' := (17, [(0, .ref 77), (1, .int x0), (2, .int x1)], [], st_mm (st_p s1 77 43 r1))) rfl ?_
  exact bi_Tv rfl rfl (Or.inl ⟨_, rfl, h⟩)
def at_X12_laysRow_2 (X : bi_X) (d : Nat) (K : bi_St → Prop) (E : Nat → bi_St → Prop) (s : bi_St) (y1 : Int32) (y2 : Int32) (y3 : Int32) : Prop := bi_T X d 212 (2, [(0, .ref 77), (1, .int y1), (2, .int y2), (3, .int y3)], [], st_mm s) (st_RV K E)
theorem go_X12_laysRow_2 {X : bi_X} {d : Nat} {K : bi_St → Prop} {E : Nat → bi_St → Prop}  {s : bi_St} {y1 : Int32} {y2 : Int32} {y3 : Int32}  (h : (((4 : Int32) ≤ y3) → K s) ∧ (¬ ((4 : Int32) ≤ y3) → bi_in (((y1 + (8 : Int32)) + ((4 : Int32) * y2)) + y3) 144 = true ∧ (bi_in y3 5 = true ∧ (at_X12_laysRow_2 X d K E (st_p s 92 (y3).toNatClampNeg (st_g s 90 ((((y1 + (8 : Int32)) + ((4 : Int32) * y2)) + y3)).toNatClampNeg)) (y1) (y2) ((y3 + (1 : Int32))))))) : at_X12_laysRow_2 X d K E s y1 y2 y3 := by
  show bi_T _ _ _ _ _
  refine bi_Tr 3 (s' := ((if (4 : Int32) ≤ y3 then 34 else 7), [(0, .ref 77), (1, .int y1), (2, .int y2), (3, .int y3)], [], st_mm s)) rfl (bi_Tif (fun hc => ?_) (fun hc => ?_))
  · have h := h.1 hc
    exact bi_Tv rfl rfl (Or.inl ⟨_, rfl, h⟩)
  · have h := h.2 hc
    refine bi_Tr 14 (s' := (26, [(0, .ref 77), (1, .int y1), (2, .int y2), (3, .int y3)], [.int (((y1 + (8 : Int32)) + ((4 : Int32) * y2)) + y3), .ref 90, .int y3, .ref 92], st_mm s)) rfl ?_
    obtain ⟨hi, h⟩ := h
    refine bi_Tial rfl rfl rfl hi ?_
    obtain ⟨hi, h⟩ := h
    refine bi_Tias rfl rfl hi ?_
    refine bi_Tr 2 (s' := (2, [(3, .int (y3 + (1 : Int32))), (0, .ref 77), (1, .int y1), (2, .int y2)], [], st_mm (st_p s 92 (y3).toNatClampNeg (st_g s 90 ((((y1 + (8 : Int32)) + ((4 : Int32) * y2)) + y3)).toNatClampNeg)))) rfl ?_
    exact bi_Tww h rfl rfl ⟨rfl, rfl, rfl, rfl, trivial⟩
/-- PolicyRowsModel.laysRow(II)V -/
theorem en_X12_laysRow {X : bi_X} {d : Nat} {K : bi_St → Prop} {E : Nat → bi_St → Prop} {s : bi_St} {x0 : Int32} {x1 : Int32}  (h : at_X12_laysRow_2 X d K E s (x0) (x1) ((0 : Int32))) : cV X d 212 [.ref 77, .int x0, .int x1] s K E := by
  show bi_T _ _ _ _ _
  refine bi_Tr 2 (s' := (2, [(3, .int (0 : Int32)), (0, .ref 77), (1, .int x0), (2, .int x1)], [], st_mm s)) rfl ?_
  exact bi_Tww h rfl rfl ⟨rfl, rfl, rfl, rfl, trivial⟩
/-- PolicyRowsModel.isOf(III)Z -/
theorem en_X12_isOf {X : bi_X} {d : Nat} {K : Int32 → bi_St → Prop} {E : Nat → bi_St → Prop} {s : bi_St} {x0 : Int32} {x1 : Int32} {x2 : Int32}  (h : bi_in (x0 + (6 : Int32)) 144 = true ∧ (((¬ (((st_g s 90 ((x0 + (6 : Int32))).toNatClampNeg) >>> (x1 &&& 31)) &&& (1 : Int32)) = 0) → bi_in (((7 : Int32) * x1) + (1 : Int32)) 56 = true ∧ (bi_in (((7 : Int32) * x1) + (2 : Int32)) 56 = true ∧ ((((st_g s 83 ((((7 : Int32) * x1) + (1 : Int32))).toNatClampNeg) = (-1 : Int32)) → (((st_g s 83 ((((7 : Int32) * x1) + (2 : Int32))).toNatClampNeg) = (4 : Int32)) → K (1 : Int32) s) ∧ (¬ ((st_g s 83 ((((7 : Int32) * x1) + (2 : Int32))).toNatClampNeg) = (4 : Int32)) → ((¬ (st_g s 83 ((((7 : Int32) * x1) + (2 : Int32))).toNatClampNeg) = x2) → K (0 : Int32) s) ∧ (¬ (¬ (st_g s 83 ((((7 : Int32) * x1) + (2 : Int32))).toNatClampNeg) = x2) → K (1 : Int32) s))) ∧ (¬ ((st_g s 83 ((((7 : Int32) * x1) + (1 : Int32))).toNatClampNeg) = (-1 : Int32)) → ((¬ (((st_g s 77 43) >>> ((st_g s 83 ((((7 : Int32) * x1) + (1 : Int32))).toNatClampNeg) &&& 31)) &&& (1 : Int32)) = (1 : Int32)) → K (0 : Int32) s) ∧ (¬ (¬ (((st_g s 77 43) >>> ((st_g s 83 ((((7 : Int32) * x1) + (1 : Int32))).toNatClampNeg) &&& 31)) &&& (1 : Int32)) = (1 : Int32)) → (((st_g s 83 ((((7 : Int32) * x1) + (2 : Int32))).toNatClampNeg) = (4 : Int32)) → K (1 : Int32) s) ∧ (¬ ((st_g s 83 ((((7 : Int32) * x1) + (2 : Int32))).toNatClampNeg) = (4 : Int32)) → ((¬ (st_g s 83 ((((7 : Int32) * x1) + (2 : Int32))).toNatClampNeg) = x2) → K (0 : Int32) s) ∧ (¬ (¬ (st_g s 83 ((((7 : Int32) * x1) + (2 : Int32))).toNatClampNeg) = x2) → K (1 : Int32) s))))))) ∧ (¬ (¬ (((st_g s 90 ((x0 + (6 : Int32))).toNatClampNeg) >>> (x1 &&& 31)) &&& (1 : Int32)) = 0) → K (0 : Int32) s))) : cI X d 213 [.ref 77, .int x0, .int x1, .int x2] s K E := by
  show bi_T _ _ _ _ _
  refine bi_Tr 5 (s' := (8, [(0, .ref 77), (1, .int x0), (2, .int x1), (3, .int x2)], [.int (x0 + (6 : Int32)), .ref 90], st_mm s)) rfl ?_
  obtain ⟨hi, h⟩ := h
  refine bi_Tial rfl rfl rfl hi ?_
  refine bi_Tr 5 (s' := ((if ¬ (((st_g s 90 ((x0 + (6 : Int32))).toNatClampNeg) >>> (x1 &&& 31)) &&& (1 : Int32)) = 0 then 18 else 16), [(0, .ref 77), (1, .int x0), (2, .int x1), (3, .int x2)], [], st_mm s)) rfl (bi_Tif (fun hc => ?_) (fun hc => ?_))
  · have h := h.1 hc
    refine bi_Tr 7 (s' := (28, [(0, .ref 77), (1, .int x0), (2, .int x1), (3, .int x2)], [.int (((7 : Int32) * x1) + (1 : Int32)), .ref 83], st_mm s)) rfl ?_
    obtain ⟨hi, h⟩ := h
    refine bi_Tial rfl rfl rfl hi ?_
    refine bi_Tr 8 (s' := (41, [(4, .int (st_g s 83 ((((7 : Int32) * x1) + (1 : Int32))).toNatClampNeg)), (0, .ref 77), (1, .int x0), (2, .int x1), (3, .int x2)], [.int (((7 : Int32) * x1) + (2 : Int32)), .ref 83], st_mm s)) rfl ?_
    obtain ⟨hi, h⟩ := h
    refine bi_Tial rfl rfl rfl hi ?_
    refine bi_Tr 4 (s' := ((if (st_g s 83 ((((7 : Int32) * x1) + (1 : Int32))).toNatClampNeg) = (-1 : Int32) then 63 else 50), [(5, .int (st_g s 83 ((((7 : Int32) * x1) + (2 : Int32))).toNatClampNeg)), (4, .int (st_g s 83 ((((7 : Int32) * x1) + (1 : Int32))).toNatClampNeg)), (0, .ref 77), (1, .int x0), (2, .int x1), (3, .int x2)], [], st_mm s)) rfl (bi_Tif (fun hc => ?_) (fun hc => ?_))
    · have h := h.1 hc
      refine bi_Tr 3 (s' := ((if (st_g s 83 ((((7 : Int32) * x1) + (2 : Int32))).toNatClampNeg) = (4 : Int32) then 75 else 69), [(5, .int (st_g s 83 ((((7 : Int32) * x1) + (2 : Int32))).toNatClampNeg)), (4, .int (st_g s 83 ((((7 : Int32) * x1) + (1 : Int32))).toNatClampNeg)), (0, .ref 77), (1, .int x0), (2, .int x1), (3, .int x2)], [], st_mm s)) rfl (bi_Tif (fun hc => ?_) (fun hc => ?_))
      · have h := h.1 hc
        refine bi_Tr 2 (s' := (80, [(5, .int (st_g s 83 ((((7 : Int32) * x1) + (2 : Int32))).toNatClampNeg)), (4, .int (st_g s 83 ((((7 : Int32) * x1) + (1 : Int32))).toNatClampNeg)), (0, .ref 77), (1, .int x0), (2, .int x1), (3, .int x2)], [.int (1 : Int32)], st_mm s)) rfl ?_
        exact bi_Tv rfl rfl (Or.inl ⟨_, _, rfl, h⟩)
      · have h := h.2 hc
        refine bi_Tr 3 (s' := ((if ¬ (st_g s 83 ((((7 : Int32) * x1) + (2 : Int32))).toNatClampNeg) = x2 then 79 else 75), [(5, .int (st_g s 83 ((((7 : Int32) * x1) + (2 : Int32))).toNatClampNeg)), (4, .int (st_g s 83 ((((7 : Int32) * x1) + (1 : Int32))).toNatClampNeg)), (0, .ref 77), (1, .int x0), (2, .int x1), (3, .int x2)], [], st_mm s)) rfl (bi_Tif (fun hc => ?_) (fun hc => ?_))
        · have h := h.1 hc
          refine bi_Tr 1 (s' := (80, [(5, .int (st_g s 83 ((((7 : Int32) * x1) + (2 : Int32))).toNatClampNeg)), (4, .int (st_g s 83 ((((7 : Int32) * x1) + (1 : Int32))).toNatClampNeg)), (0, .ref 77), (1, .int x0), (2, .int x1), (3, .int x2)], [.int (0 : Int32)], st_mm s)) rfl ?_
          exact bi_Tv rfl rfl (Or.inl ⟨_, _, rfl, h⟩)
        · have h := h.2 hc
          refine bi_Tr 2 (s' := (80, [(5, .int (st_g s 83 ((((7 : Int32) * x1) + (2 : Int32))).toNatClampNeg)), (4, .int (st_g s 83 ((((7 : Int32) * x1) + (1 : Int32))).toNatClampNeg)), (0, .ref 77), (1, .int x0), (2, .int x1), (3, .int x2)], [.int (1 : Int32)], st_mm s)) rfl ?_
          exact bi_Tv rfl rfl (Or.inl ⟨_, _, rfl, h⟩)
    · have h := h.2 hc
      refine bi_Tr 8 (s' := ((if ¬ (((st_g s 77 43) >>> ((st_g s 83 ((((7 : Int32) * x1) + (1 : Int32))).toNatClampNeg) &&& 31)) &&& (1 : Int32)) = (1 : Int32) then 79 else 63), [(5, .int (st_g s 83 ((((7 : Int32) * x1) + (2 : Int32))).toNatClampNeg)), (4, .int (st_g s 83 ((((7 : Int32) * x1) + (1 : Int32))).toNatClampNeg)), (0, .ref 77), (1, .int x0), (2, .int x1), (3, .int x2)], [], st_mm s)) rfl (bi_Tif (fun hc => ?_) (fun hc => ?_))
      · have h := h.1 hc
        refine bi_Tr 1 (s' := (80, [(5, .int (st_g s 83 ((((7 : Int32) * x1) + (2 : Int32))).toNatClampNeg)), (4, .int (st_g s 83 ((((7 : Int32) * x1) + (1 : Int32))).toNatClampNeg)), (0, .ref 77), (1, .int x0), (2, .int x1), (3, .int x2)], [.int (0 : Int32)], st_mm s)) rfl ?_
        exact bi_Tv rfl rfl (Or.inl ⟨_, _, rfl, h⟩)
      · have h := h.2 hc
        refine bi_Tr 3 (s' := ((if (st_g s 83 ((((7 : Int32) * x1) + (2 : Int32))).toNatClampNeg) = (4 : Int32) then 75 else 69), [(5, .int (st_g s 83 ((((7 : Int32) * x1) + (2 : Int32))).toNatClampNeg)), (4, .int (st_g s 83 ((((7 : Int32) * x1) + (1 : Int32))).toNatClampNeg)), (0, .ref 77), (1, .int x0), (2, .int x1), (3, .int x2)], [], st_mm s)) rfl (bi_Tif (fun hc => ?_) (fun hc => ?_))
        · have h := h.1 hc
          refine bi_Tr 2 (s' := (80, [(5, .int (st_g s 83 ((((7 : Int32) * x1) + (2 : Int32))).toNatClampNeg)), (4, .int (st_g s 83 ((((7 : Int32) * x1) + (1 : Int32))).toNatClampNeg)), (0, .ref 77), (1, .int x0), (2, .int x1), (3, .int x2)], [.int (1 : Int32)], st_mm s)) rfl ?_
          exact bi_Tv rfl rfl (Or.inl ⟨_, _, rfl, h⟩)
        · have h := h.2 hc
          refine bi_Tr 3 (s' := ((if ¬ (st_g s 83 ((((7 : Int32) * x1) + (2 : Int32))).toNatClampNeg) = x2 then 79 else 75), [(5, .int (st_g s 83 ((((7 : Int32) * x1) + (2 : Int32))).toNatClampNeg)), (4, .int (st_g s 83 ((((7 : Int32) * x1) + (1 : Int32))).toNatClampNeg)), (0, .ref 77), (1, .int x0), (2, .int x1), (3, .int x2)], [], st_mm s)) rfl (bi_Tif (fun hc => ?_) (fun hc => ?_))
          · have h := h.1 hc
            refine bi_Tr 1 (s' := (80, [(5, .int (st_g s 83 ((((7 : Int32) * x1) + (2 : Int32))).toNatClampNeg)), (4, .int (st_g s 83 ((((7 : Int32) * x1) + (1 : Int32))).toNatClampNeg)), (0, .ref 77), (1, .int x0), (2, .int x1), (3, .int x2)], [.int (0 : Int32)], st_mm s)) rfl ?_
            exact bi_Tv rfl rfl (Or.inl ⟨_, _, rfl, h⟩)
          · have h := h.2 hc
            refine bi_Tr 2 (s' := (80, [(5, .int (st_g s 83 ((((7 : Int32) * x1) + (2 : Int32))).toNatClampNeg)), (4, .int (st_g s 83 ((((7 : Int32) * x1) + (1 : Int32))).toNatClampNeg)), (0, .ref 77), (1, .int x0), (2, .int x1), (3, .int x2)], [.int (1 : Int32)], st_mm s)) rfl ?_
            exact bi_Tv rfl rfl (Or.inl ⟨_, _, rfl, h⟩)
  · have h := h.2 hc
    refine bi_Tr 1 (s' := (17, [(0, .ref 77), (1, .int x0), (2, .int x1), (3, .int x2)], [.int (0 : Int32)], st_mm s)) rfl ?_
    exact bi_Tv rfl rfl (Or.inl ⟨_, _, rfl, h⟩)
/-- PolicyRowsModel.asksAt(II)I -/
theorem en_X12_asksAt {X : bi_X} {d : Nat} {K : Int32 → bi_St → Prop} {E : Nat → bi_St → Prop} {s : bi_St} {x0 : Int32} {x1 : Int32}  (h : bi_in (((7 : Int32) * x0) + (4 : Int32)) 56 = true ∧ (((¬ x1 = (1 : Int32)) → bi_in (((7 : Int32) * x0) + (3 : Int32)) 56 = true ∧ (K (st_g s 83 ((((7 : Int32) * x0) + (3 : Int32))).toNatClampNeg) s)) ∧ (¬ (¬ x1 = (1 : Int32)) → (((st_g s 83 ((((7 : Int32) * x0) + (4 : Int32))).toNatClampNeg) = (-1 : Int32)) → bi_in (((7 : Int32) * x0) + (3 : Int32)) 56 = true ∧ (K (st_g s 83 ((((7 : Int32) * x0) + (3 : Int32))).toNatClampNeg) s)) ∧ (¬ ((st_g s 83 ((((7 : Int32) * x0) + (4 : Int32))).toNatClampNeg) = (-1 : Int32)) → K (st_g s 83 ((((7 : Int32) * x0) + (4 : Int32))).toNatClampNeg) s)))) : cI X d 214 [.ref 77, .int x0, .int x1] s K E := by
  show bi_T _ _ _ _ _
  refine bi_Tr 7 (s' := (10, [(0, .ref 77), (1, .int x0), (2, .int x1)], [.int (((7 : Int32) * x0) + (4 : Int32)), .ref 83], st_mm s)) rfl ?_
  obtain ⟨hi, h⟩ := h
  refine bi_Tial rfl rfl rfl hi ?_
  refine bi_Tr 4 (s' := ((if ¬ x1 = (1 : Int32) then 26 else 17), [(3, .int (st_g s 83 ((((7 : Int32) * x0) + (4 : Int32))).toNatClampNeg)), (0, .ref 77), (1, .int x0), (2, .int x1)], [], st_mm s)) rfl (bi_Tif (fun hc => ?_) (fun hc => ?_))
  · have h := h.1 hc
    refine bi_Tr 7 (s' := (36, [(3, .int (st_g s 83 ((((7 : Int32) * x0) + (4 : Int32))).toNatClampNeg)), (0, .ref 77), (1, .int x0), (2, .int x1)], [.int (((7 : Int32) * x0) + (3 : Int32)), .ref 83], st_mm s)) rfl ?_
    obtain ⟨hi, h⟩ := h
    refine bi_Tial rfl rfl rfl hi ?_
    exact bi_Tv rfl rfl (Or.inl ⟨_, _, rfl, h⟩)
  · have h := h.2 hc
    refine bi_Tr 3 (s' := ((if (st_g s 83 ((((7 : Int32) * x0) + (4 : Int32))).toNatClampNeg) = (-1 : Int32) then 26 else 22), [(3, .int (st_g s 83 ((((7 : Int32) * x0) + (4 : Int32))).toNatClampNeg)), (0, .ref 77), (1, .int x0), (2, .int x1)], [], st_mm s)) rfl (bi_Tif (fun hc => ?_) (fun hc => ?_))
    · have h := h.1 hc
      refine bi_Tr 7 (s' := (36, [(3, .int (st_g s 83 ((((7 : Int32) * x0) + (4 : Int32))).toNatClampNeg)), (0, .ref 77), (1, .int x0), (2, .int x1)], [.int (((7 : Int32) * x0) + (3 : Int32)), .ref 83], st_mm s)) rfl ?_
      obtain ⟨hi, h⟩ := h
      refine bi_Tial rfl rfl rfl hi ?_
      exact bi_Tv rfl rfl (Or.inl ⟨_, _, rfl, h⟩)
    · have h := h.2 hc
      refine bi_Tr 2 (s' := (37, [(3, .int (st_g s 83 ((((7 : Int32) * x0) + (4 : Int32))).toNatClampNeg)), (0, .ref 77), (1, .int x0), (2, .int x1)], [.int (st_g s 83 ((((7 : Int32) * x0) + (4 : Int32))).toNatClampNeg)], st_mm s)) rfl ?_
      exact bi_Tv rfl rfl (Or.inl ⟨_, _, rfl, h⟩)
def at_X12_doLet_14 (X : bi_X) (d : Nat) (K : Int32 → bi_St → Prop) (E : Nat → bi_St → Prop) (s : bi_St) (y1 : Int32) (y2 : Int32) (y3 : Int32) (y4 : Int32) (y5 : Int32) (y6 : Int32) : Prop := bi_T X d 215 (14, [(0, .ref 77), (1, .int y1), (2, .int y2), (3, .int y3), (4, .int y4), (5, .int y5), (6, .int y6)], [], st_mm s) (st_RI K E)
def at_X12_doLet_143 (X : bi_X) (d : Nat) (K : Int32 → bi_St → Prop) (E : Nat → bi_St → Prop) (s : bi_St)  : Prop := bi_T X d 215 (143, [], [], st_mm s) (st_RI K E)
def at_X12_doLet_65 (X : bi_X) (d : Nat) (K : Int32 → bi_St → Prop) (E : Nat → bi_St → Prop) (s : bi_St) (y1 : Int32) (y2 : Int32) (y3 : Int32) (y4 : Int32) (y5 : Int32) (y6 : Int32) : Prop := bi_T X d 215 (65, [(0, .ref 77), (1, .int y1), (2, .int y2), (3, .int y3), (4, .int y4), (5, .int y5), (6, .int y6)], [], st_mm s) (st_RI K E)
def at_X12_doLet_116 (X : bi_X) (d : Nat) (K : Int32 → bi_St → Prop) (E : Nat → bi_St → Prop) (s : bi_St) (y1 : Int32) (y2 : Int32) (y3 : Int32) (y5 : Int32) (y6 : Int32) : Prop := bi_T X d 215 (116, [(0, .ref 77), (1, .int y1), (2, .int y2), (3, .int y3), (5, .int y5), (6, .int y6)], [], st_mm s) (st_RI K E)
def at_X12_doLet_123 (X : bi_X) (d : Nat) (K : Int32 → bi_St → Prop) (E : Nat → bi_St → Prop) (s : bi_St) (y1 : Int32) (y2 : Int32) (y3 : Int32) (y4 : Int32) (y5 : Int32) (y6 : Int32) : Prop := bi_T X d 215 (123, [(0, .ref 77), (1, .int y1), (2, .int y2), (3, .int y3), (4, .int y4), (5, .int y5), (6, .int y6)], [], st_mm s) (st_RI K E)
def at_X12_doLet_100 (X : bi_X) (d : Nat) (K : Int32 → bi_St → Prop) (E : Nat → bi_St → Prop) (s : bi_St) (y1 : Int32) (y2 : Int32) (y3 : Int32) (y4 : Int32) (y6 : Int32) : Prop := bi_T X d 215 (100, [(0, .ref 77), (1, .int y1), (2, .int y2), (3, .int y3), (4, .int y4), (6, .int y6)], [], st_mm s) (st_RI K E)
theorem go_X12_doLet_14 {X : bi_X} {d : Nat} {K : Int32 → bi_St → Prop} {E : Nat → bi_St → Prop}  {s : bi_St} {y1 : Int32} {y2 : Int32} {y3 : Int32} {y4 : Int32} {y5 : Int32} {y6 : Int32}  (h : (((st_g s 77 29) ≤ y6) → ((y4 = 0) → at_X12_doLet_143 X (d + 1) K E s) ∧ (¬ (y4 = 0) → ((y5 = 0) → at_X12_doLet_143 X (d + 1) K E s) ∧ (¬ (y5 = 0) → K (1 : Int32) s))) ∧ (¬ ((st_g s 77 29) ≤ y6) → cI X d 213 [.ref 77, .int y1, .int y6, .int y2] s (fun (r1 : Int32) (s1 : bi_St) => ((¬ r1 = 0) → cI X d 214 [.ref 77, .int y6, .int y3] s1 (fun (r2 : Int32) (s2 : bi_St) => ((r2 = (-1 : Int32)) → at_X12_doLet_65 X (d + 1) K E s2 (y1) (y2) (y3) (y4) (y5) (y6)) ∧ (¬ (r2 = (-1 : Int32)) → cI X d 210 [.ref 77, .ref 87, .int r2] s2 (fun (r3 : Int32) (s3 : bi_St) => ((r3 = 0) → bi_in ((7 : Int32) * y6) 56 = true ∧ (((¬ (st_g s3 83 (((7 : Int32) * y6)).toNatClampNeg) = (1 : Int32)) → ((¬ y4 = 0) → at_X12_doLet_116 X (d + 1) K E s3 (y1) (y2) (y3) (y5) (y6)) ∧ (¬ (¬ y4 = 0) → (((0 : Int32) = 0) → at_X12_doLet_123 X (d + 1) K E s3 (y1) (y2) (y3) ((0 : Int32)) (y5) (y6)) ∧ (¬ ((0 : Int32) = 0) → at_X12_doLet_116 X (d + 1) K E s3 (y1) (y2) (y3) (y5) (y6)))) ∧ (¬ (¬ (st_g s3 83 (((7 : Int32) * y6)).toNatClampNeg) = (1 : Int32)) → ((y5 = 0) → at_X12_doLet_100 X (d + 1) K E s3 (y1) (y2) (y3) (y4) (y6)) ∧ (¬ (y5 = 0) → (((0 : Int32) = 0) → at_X12_doLet_100 X (d + 1) K E s3 (y1) (y2) (y3) (y4) (y6)) ∧ (¬ ((0 : Int32) = 0) → at_X12_doLet_123 X (d + 1) K E s3 (y1) (y2) (y3) (y4) ((1 : Int32)) (y6)))))) ∧ (¬ (r3 = 0) → at_X12_doLet_65 X (d + 1) K E s3 (y1) (y2) (y3) (y4) (y5) (y6))) (fun _ _ => False))) (fun _ _ => False)) ∧ (¬ (¬ r1 = 0) → at_X12_doLet_123 X (d + 1) K E s1 (y1) (y2) (y3) (y4) (y5) (y6))) (fun _ _ => False))) : at_X12_doLet_14 X (d + 1) K E s y1 y2 y3 y4 y5 y6 := by
  show bi_T _ _ _ _ _
  refine bi_Tr 4 (s' := ((if (st_g s 77 29) ≤ y6 then 129 else 23), [(0, .ref 77), (1, .int y1), (2, .int y2), (3, .int y3), (4, .int y4), (5, .int y5), (6, .int y6)], [], st_mm s)) rfl (bi_Tif (fun hc => ?_) (fun hc => ?_))
  · have h := h.1 hc
    refine bi_Tr 2 (s' := ((if y4 = 0 then 143 else 134), [(0, .ref 77), (1, .int y1), (2, .int y2), (3, .int y3), (4, .int y4), (5, .int y5), (6, .int y6)], [], st_mm s)) rfl (bi_Tif (fun hc => ?_) (fun hc => ?_))
    · have h := h.1 hc
      exact bi_Tww h rfl rfl trivial
    · have h := h.2 hc
      refine bi_Tr 2 (s' := ((if y5 = 0 then 143 else 139), [(0, .ref 77), (1, .int y1), (2, .int y2), (3, .int y3), (4, .int y4), (5, .int y5), (6, .int y6)], [], st_mm s)) rfl (bi_Tif (fun hc => ?_) (fun hc => ?_))
      · have h := h.1 hc
        exact bi_Tww h rfl rfl trivial
      · have h := h.2 hc
        refine bi_Tr 2 (s' := (144, [(0, .ref 77), (1, .int y1), (2, .int y2), (3, .int y3), (4, .int y4), (5, .int y5), (6, .int y6)], [.int (1 : Int32)], st_mm s)) rfl ?_
        exact bi_Tv rfl rfl (Or.inl ⟨_, _, rfl, h⟩)
  · have h := h.2 hc
    refine bi_Tr 4 (s' := (28, [(0, .ref 77), (1, .int y1), (2, .int y2), (3, .int y3), (4, .int y4), (5, .int y5), (6, .int y6)], [.int y2, .int y6, .int y1, .ref 77], st_mm s)) rfl ?_
    refine bi_TcI (as := [.ref 77, .int y1, .int y6, .int y2]) rfl rfl ?_
    refine cI.mono h (fun r1 s1 h => ?_) (fun _ _ h => h.elim)
    refine bi_Tr 1 (s' := ((if ¬ r1 = 0 then 37 else 34), [(0, .ref 77), (1, .int y1), (2, .int y2), (3, .int y3), (4, .int y4), (5, .int y5), (6, .int y6)], [], st_mm s1)) rfl (bi_Tif (fun hc => ?_) (fun hc => ?_))
    · have h := h.1 hc
      refine bi_Tr 3 (s' := (41, [(0, .ref 77), (1, .int y1), (2, .int y2), (3, .int y3), (4, .int y4), (5, .int y5), (6, .int y6)], [.int y3, .int y6, .ref 77], st_mm s1)) rfl ?_
      refine bi_TcI (as := [.ref 77, .int y6, .int y3]) rfl rfl ?_
      refine cI.mono h (fun r2 s2 h => ?_) (fun _ _ h => h.elim)
      refine bi_Tr 4 (s' := ((if r2 = (-1 : Int32) then 65 else 52), [(7, .int r2), (0, .ref 77), (1, .int y1), (2, .int y2), (3, .int y3), (4, .int y4), (5, .int y5), (6, .int y6)], [], st_mm s2)) rfl (bi_Tif (fun hc => ?_) (fun hc => ?_))
      · have h := h.1 hc
        exact bi_Tww h rfl rfl ⟨rfl, rfl, rfl, rfl, rfl, rfl, rfl, trivial⟩
      · have h := h.2 hc
        refine bi_Tr 4 (s' := (59, [(7, .int r2), (0, .ref 77), (1, .int y1), (2, .int y2), (3, .int y3), (4, .int y4), (5, .int y5), (6, .int y6)], [.int r2, .ref 87, .ref 77], st_mm s2)) rfl ?_
        refine bi_TcI (as := [.ref 77, .ref 87, .int r2]) rfl rfl ?_
        refine cI.mono h (fun r3 s3 h => ?_) (fun _ _ h => h.elim)
        refine bi_Tr 1 (s' := ((if r3 = 0 then 69 else 65), [(7, .int r2), (0, .ref 77), (1, .int y1), (2, .int y2), (3, .int y3), (4, .int y4), (5, .int y5), (6, .int y6)], [], st_mm s3)) rfl (bi_Tif (fun hc => ?_) (fun hc => ?_))
        · have h := h.1 hc
          refine bi_Tr 7 (s' := (81, [(8, .int (0 : Int32)), (7, .int r2), (0, .ref 77), (1, .int y1), (2, .int y2), (3, .int y3), (4, .int y4), (5, .int y5), (6, .int y6)], [.int ((7 : Int32) * y6), .ref 83], st_mm s3)) rfl ?_
          obtain ⟨hi, h⟩ := h
          refine bi_Tial rfl rfl rfl hi ?_
          refine bi_Tr 2 (s' := ((if ¬ (st_g s3 83 (((7 : Int32) * y6)).toNatClampNeg) = (1 : Int32) then 106 else 86), [(8, .int (0 : Int32)), (7, .int r2), (0, .ref 77), (1, .int y1), (2, .int y2), (3, .int y3), (4, .int y4), (5, .int y5), (6, .int y6)], [], st_mm s3)) rfl (bi_Tif (fun hc => ?_) (fun hc => ?_))
          · have h := h.1 hc
            refine bi_Tr 2 (s' := ((if ¬ y4 = 0 then 116 else 111), [(8, .int (0 : Int32)), (7, .int r2), (0, .ref 77), (1, .int y1), (2, .int y2), (3, .int y3), (4, .int y4), (5, .int y5), (6, .int y6)], [], st_mm s3)) rfl (bi_Tif (fun hc => ?_) (fun hc => ?_))
            · have h := h.1 hc
              exact bi_Tww h rfl rfl ⟨rfl, rfl, rfl, rfl, rfl, rfl, trivial⟩
            · have h := h.2 hc
              refine bi_Tr 2 (s' := ((if (0 : Int32) = 0 then 120 else 116), [(8, .int (0 : Int32)), (7, .int r2), (0, .ref 77), (1, .int y1), (2, .int y2), (3, .int y3), (4, .int y4), (5, .int y5), (6, .int y6)], [], st_mm s3)) rfl (bi_Tif (fun hc => ?_) (fun hc => ?_))
              · have h := h.1 hc
                refine bi_Tr 2 (s' := (123, [(4, .int (0 : Int32)), (8, .int (0 : Int32)), (7, .int r2), (0, .ref 77), (1, .int y1), (2, .int y2), (3, .int y3), (5, .int y5), (6, .int y6)], [], st_mm s3)) rfl ?_
                exact bi_Tww h rfl rfl ⟨rfl, rfl, rfl, rfl, rfl, rfl, rfl, trivial⟩
              · have h := h.2 hc
                exact bi_Tww h rfl rfl ⟨rfl, rfl, rfl, rfl, rfl, rfl, trivial⟩
          · have h := h.2 hc
            refine bi_Tr 2 (s' := ((if y5 = 0 then 100 else 91), [(8, .int (0 : Int32)), (7, .int r2), (0, .ref 77), (1, .int y1), (2, .int y2), (3, .int y3), (4, .int y4), (5, .int y5), (6, .int y6)], [], st_mm s3)) rfl (bi_Tif (fun hc => ?_) (fun hc => ?_))
            · have h := h.1 hc
              exact bi_Tww h rfl rfl ⟨rfl, rfl, rfl, rfl, rfl, rfl, trivial⟩
            · have h := h.2 hc
              refine bi_Tr 2 (s' := ((if (0 : Int32) = 0 then 100 else 96), [(8, .int (0 : Int32)), (7, .int r2), (0, .ref 77), (1, .int y1), (2, .int y2), (3, .int y3), (4, .int y4), (5, .int y5), (6, .int y6)], [], st_mm s3)) rfl (bi_Tif (fun hc => ?_) (fun hc => ?_))
              · have h := h.1 hc
                exact bi_Tww h rfl rfl ⟨rfl, rfl, rfl, rfl, rfl, rfl, trivial⟩
              · have h := h.2 hc
                refine bi_Tr 4 (s' := (123, [(5, .int (1 : Int32)), (8, .int (0 : Int32)), (7, .int r2), (0, .ref 77), (1, .int y1), (2, .int y2), (3, .int y3), (4, .int y4), (6, .int y6)], [], st_mm s3)) rfl ?_
                exact bi_Tww h rfl rfl ⟨rfl, rfl, rfl, rfl, rfl, rfl, rfl, trivial⟩
        · have h := h.2 hc
          exact bi_Tww h rfl rfl ⟨rfl, rfl, rfl, rfl, rfl, rfl, rfl, trivial⟩
    · have h := h.2 hc
      refine bi_Tr 1 (s' := (123, [(0, .ref 77), (1, .int y1), (2, .int y2), (3, .int y3), (4, .int y4), (5, .int y5), (6, .int y6)], [], st_mm s1)) rfl ?_
      exact bi_Tww h rfl rfl ⟨rfl, rfl, rfl, rfl, rfl, rfl, rfl, trivial⟩
theorem go_X12_doLet_143 {X : bi_X} {d : Nat} {K : Int32 → bi_St → Prop} {E : Nat → bi_St → Prop}  {s : bi_St}   (h : K (0 : Int32) s) : at_X12_doLet_143 X (d + 1) K E s  := by
  show bi_T _ _ _ _ _
  refine bi_Tr 1 (s' := (144, [], [.int (0 : Int32)], st_mm s)) rfl ?_
  exact bi_Tv rfl rfl (Or.inl ⟨_, _, rfl, h⟩)
theorem go_X12_doLet_65 {X : bi_X} {d : Nat} {K : Int32 → bi_St → Prop} {E : Nat → bi_St → Prop}  {s : bi_St} {y1 : Int32} {y2 : Int32} {y3 : Int32} {y4 : Int32} {y5 : Int32} {y6 : Int32}  (h : bi_in ((7 : Int32) * y6) 56 = true ∧ (((¬ (st_g s 83 (((7 : Int32) * y6)).toNatClampNeg) = (1 : Int32)) → ((¬ y4 = 0) → at_X12_doLet_116 X (d + 1) K E s (y1) (y2) (y3) (y5) (y6)) ∧ (¬ (¬ y4 = 0) → (((1 : Int32) = 0) → at_X12_doLet_123 X (d + 1) K E s (y1) (y2) (y3) ((0 : Int32)) (y5) (y6)) ∧ (¬ ((1 : Int32) = 0) → at_X12_doLet_116 X (d + 1) K E s (y1) (y2) (y3) (y5) (y6)))) ∧ (¬ (¬ (st_g s 83 (((7 : Int32) * y6)).toNatClampNeg) = (1 : Int32)) → ((y5 = 0) → at_X12_doLet_100 X (d + 1) K E s (y1) (y2) (y3) (y4) (y6)) ∧ (¬ (y5 = 0) → (((1 : Int32) = 0) → at_X12_doLet_100 X (d + 1) K E s (y1) (y2) (y3) (y4) (y6)) ∧ (¬ ((1 : Int32) = 0) → at_X12_doLet_123 X (d + 1) K E s (y1) (y2) (y3) (y4) ((1 : Int32)) (y6)))))) : at_X12_doLet_65 X (d + 1) K E s y1 y2 y3 y4 y5 y6 := by
  show bi_T _ _ _ _ _
  refine bi_Tr 8 (s' := (81, [(8, .int (1 : Int32)), (0, .ref 77), (1, .int y1), (2, .int y2), (3, .int y3), (4, .int y4), (5, .int y5), (6, .int y6)], [.int ((7 : Int32) * y6), .ref 83], st_mm s)) rfl ?_
  obtain ⟨hi, h⟩ := h
  refine bi_Tial rfl rfl rfl hi ?_
  refine bi_Tr 2 (s' := ((if ¬ (st_g s 83 (((7 : Int32) * y6)).toNatClampNeg) = (1 : Int32) then 106 else 86), [(8, .int (1 : Int32)), (0, .ref 77), (1, .int y1), (2, .int y2), (3, .int y3), (4, .int y4), (5, .int y5), (6, .int y6)], [], st_mm s)) rfl (bi_Tif (fun hc => ?_) (fun hc => ?_))
  · have h := h.1 hc
    refine bi_Tr 2 (s' := ((if ¬ y4 = 0 then 116 else 111), [(8, .int (1 : Int32)), (0, .ref 77), (1, .int y1), (2, .int y2), (3, .int y3), (4, .int y4), (5, .int y5), (6, .int y6)], [], st_mm s)) rfl (bi_Tif (fun hc => ?_) (fun hc => ?_))
    · have h := h.1 hc
      exact bi_Tww h rfl rfl ⟨rfl, rfl, rfl, rfl, rfl, rfl, trivial⟩
    · have h := h.2 hc
      refine bi_Tr 2 (s' := ((if (1 : Int32) = 0 then 120 else 116), [(8, .int (1 : Int32)), (0, .ref 77), (1, .int y1), (2, .int y2), (3, .int y3), (4, .int y4), (5, .int y5), (6, .int y6)], [], st_mm s)) rfl (bi_Tif (fun hc => ?_) (fun hc => ?_))
      · have h := h.1 hc
        refine bi_Tr 2 (s' := (123, [(4, .int (0 : Int32)), (8, .int (1 : Int32)), (0, .ref 77), (1, .int y1), (2, .int y2), (3, .int y3), (5, .int y5), (6, .int y6)], [], st_mm s)) rfl ?_
        exact bi_Tww h rfl rfl ⟨rfl, rfl, rfl, rfl, rfl, rfl, rfl, trivial⟩
      · have h := h.2 hc
        exact bi_Tww h rfl rfl ⟨rfl, rfl, rfl, rfl, rfl, rfl, trivial⟩
  · have h := h.2 hc
    refine bi_Tr 2 (s' := ((if y5 = 0 then 100 else 91), [(8, .int (1 : Int32)), (0, .ref 77), (1, .int y1), (2, .int y2), (3, .int y3), (4, .int y4), (5, .int y5), (6, .int y6)], [], st_mm s)) rfl (bi_Tif (fun hc => ?_) (fun hc => ?_))
    · have h := h.1 hc
      exact bi_Tww h rfl rfl ⟨rfl, rfl, rfl, rfl, rfl, rfl, trivial⟩
    · have h := h.2 hc
      refine bi_Tr 2 (s' := ((if (1 : Int32) = 0 then 100 else 96), [(8, .int (1 : Int32)), (0, .ref 77), (1, .int y1), (2, .int y2), (3, .int y3), (4, .int y4), (5, .int y5), (6, .int y6)], [], st_mm s)) rfl (bi_Tif (fun hc => ?_) (fun hc => ?_))
      · have h := h.1 hc
        exact bi_Tww h rfl rfl ⟨rfl, rfl, rfl, rfl, rfl, rfl, trivial⟩
      · have h := h.2 hc
        refine bi_Tr 4 (s' := (123, [(5, .int (1 : Int32)), (8, .int (1 : Int32)), (0, .ref 77), (1, .int y1), (2, .int y2), (3, .int y3), (4, .int y4), (6, .int y6)], [], st_mm s)) rfl ?_
        exact bi_Tww h rfl rfl ⟨rfl, rfl, rfl, rfl, rfl, rfl, rfl, trivial⟩
theorem go_X12_doLet_116 {X : bi_X} {d : Nat} {K : Int32 → bi_St → Prop} {E : Nat → bi_St → Prop}  {s : bi_St} {y1 : Int32} {y2 : Int32} {y3 : Int32} {y5 : Int32} {y6 : Int32}  (h : at_X12_doLet_123 X (d + 1) K E s (y1) (y2) (y3) ((1 : Int32)) (y5) (y6)) : at_X12_doLet_116 X (d + 1) K E s y1 y2 y3 y5 y6 := by
  show bi_T _ _ _ _ _
  refine bi_Tr 3 (s' := (123, [(4, .int (1 : Int32)), (0, .ref 77), (1, .int y1), (2, .int y2), (3, .int y3), (5, .int y5), (6, .int y6)], [], st_mm s)) rfl ?_
  exact bi_Tww h rfl rfl ⟨rfl, rfl, rfl, rfl, rfl, rfl, rfl, trivial⟩
theorem go_X12_doLet_123 {X : bi_X} {d : Nat} {K : Int32 → bi_St → Prop} {E : Nat → bi_St → Prop}  {s : bi_St} {y1 : Int32} {y2 : Int32} {y3 : Int32} {y4 : Int32} {y5 : Int32} {y6 : Int32}  (h : at_X12_doLet_14 X (d + 1) K E s (y1) (y2) (y3) (y4) (y5) ((y6 + (1 : Int32)))) : at_X12_doLet_123 X (d + 1) K E s y1 y2 y3 y4 y5 y6 := by
  show bi_T _ _ _ _ _
  refine bi_Tr 2 (s' := (14, [(6, .int (y6 + (1 : Int32))), (0, .ref 77), (1, .int y1), (2, .int y2), (3, .int y3), (4, .int y4), (5, .int y5)], [], st_mm s)) rfl ?_
  exact bi_Tww h rfl rfl ⟨rfl, rfl, rfl, rfl, rfl, rfl, rfl, trivial⟩
theorem go_X12_doLet_100 {X : bi_X} {d : Nat} {K : Int32 → bi_St → Prop} {E : Nat → bi_St → Prop}  {s : bi_St} {y1 : Int32} {y2 : Int32} {y3 : Int32} {y4 : Int32} {y6 : Int32}  (h : at_X12_doLet_123 X (d + 1) K E s (y1) (y2) (y3) (y4) ((0 : Int32)) (y6)) : at_X12_doLet_100 X (d + 1) K E s y1 y2 y3 y4 y6 := by
  show bi_T _ _ _ _ _
  refine bi_Tr 3 (s' := (123, [(5, .int (0 : Int32)), (0, .ref 77), (1, .int y1), (2, .int y2), (3, .int y3), (4, .int y4), (6, .int y6)], [], st_mm s)) rfl ?_
  exact bi_Tww h rfl rfl ⟨rfl, rfl, rfl, rfl, rfl, rfl, rfl, trivial⟩
/-- PolicyRowsModel.doLet(III)Z -/
theorem en_X12_doLet {X : bi_X} {d : Nat} {K : Int32 → bi_St → Prop} {E : Nat → bi_St → Prop} {s : bi_St} {x0 : Int32} {x1 : Int32} {x2 : Int32}  (h : at_X12_doLet_14 X (d + 1) K E (st_p s 77 47 (0 : Int32)) (x0) (x1) (x2) ((0 : Int32)) ((1 : Int32)) ((0 : Int32))) : cI X (d + 1) 215 [.ref 77, .int x0, .int x1, .int x2] s K E := by
  show bi_T _ _ _ _ _
  refine bi_Tr 6 (s' := (8, [(5, .int (1 : Int32)), (4, .int (0 : Int32)), (0, .ref 77), (1, .int x0), (2, .int x1), (3, .int x2)], [.int (0 : Int32), .ref 77], st_mm s)) rfl ?_
  refine bi_Tpz rfl rfl rfl rfl rfl rfl ?_
  refine bi_Tr 2 (s' := (14, [(6, .int (0 : Int32)), (5, .int (1 : Int32)), (4, .int (0 : Int32)), (0, .ref 77), (1, .int x0), (2, .int x1), (3, .int x2)], [], st_mm (st_p s 77 47 (0 : Int32)))) rfl ?_
  exact bi_Tww h rfl rfl ⟨rfl, rfl, rfl, rfl, rfl, rfl, rfl, trivial⟩
/-- PolicyRowsModel.doesRead(III)Z -/
theorem en_X12_doesRead {X : bi_X} {d : Nat} {K : Int32 → bi_St → Prop} {E : Nat → bi_St → Prop} {s : bi_St} {x0 : Int32} {x1 : Int32} {x2 : Int32}  (h : cV X d 211 [.ref 77, .int x0, .int x1] s (fun (s1 : bi_St) => cV X d 212 [.ref 77, .int x0, .int x2] s1 (fun (s2 : bi_St) => cI X d 215 [.ref 77, .int x0, .int (0 : Int32), .int (0 : Int32)] s2 (fun (r3 : Int32) (s3 : bi_St) => bi_bool r3 = true ∧ (K r3 s3)) (fun _ _ => False)) (fun _ _ => False)) (fun _ _ => False)) : cI X (d + 1) 216 [.ref 77, .int x0, .int x1, .int x2] s K E := by
  show bi_T _ _ _ _ _
  refine bi_Tr 3 (s' := (3, [(0, .ref 77), (1, .int x0), (2, .int x1), (3, .int x2)], [.int x1, .int x0, .ref 77], st_mm s)) rfl ?_
  refine bi_TcV (as := [.ref 77, .int x0, .int x1]) rfl rfl ?_
  refine cV.mono h (fun s1 h => ?_) (fun _ _ h => h.elim)
  refine bi_Tr 3 (s' := (9, [(0, .ref 77), (1, .int x0), (2, .int x1), (3, .int x2)], [.int x2, .int x0, .ref 77], st_mm s1)) rfl ?_
  refine bi_TcV (as := [.ref 77, .int x0, .int x2]) rfl rfl ?_
  refine cV.mono h (fun s2 h => ?_) (fun _ _ h => h.elim)
  refine bi_Tr 4 (s' := (16, [(0, .ref 77), (1, .int x0), (2, .int x1), (3, .int x2)], [.int (0 : Int32), .int (0 : Int32), .int x0, .ref 77], st_mm s2)) rfl ?_
  refine bi_TcI (as := [.ref 77, .int x0, .int (0 : Int32), .int (0 : Int32)]) rfl rfl ?_
  refine cI.mono h (fun r3 s3 h => ?_) (fun _ _ h => h.elim)
  obtain ⟨hi, h⟩ := h
  exact bi_Tv rfl hi (Or.inl ⟨_, _, rfl, h⟩)
def at_X12_readsOf_5 (X : bi_X) (d : Nat) (K : Int32 → bi_St → Prop) (E : Nat → bi_St → Prop) (s : bi_St) (y1 : Int32) (y2 : Int32) (y3 : Int32) (y4 : Int32) : Prop := bi_T X d 217 (5, [(0, .ref 77), (1, .int y1), (2, .int y2), (3, .int y3), (4, .int y4)], [], st_mm s) (st_RI K E)
theorem go_X12_readsOf_5 {X : bi_X} {d : Nat} {K : Int32 → bi_St → Prop} {E : Nat → bi_St → Prop}  {s : bi_St} {y1 : Int32} {y2 : Int32} {y3 : Int32} {y4 : Int32}  (h : bi_in (y1 + (7 : Int32)) 144 = true ∧ ((((st_g s 90 ((y1 + (7 : Int32))).toNatClampNeg) ≤ y4) → K y3 s) ∧ (¬ ((st_g s 90 ((y1 + (7 : Int32))).toNatClampNeg) ≤ y4) → cI X d 216 [.ref 77, .int y1, .int y2, .int y4] s (fun (r1 : Int32) (s1 : bi_St) => ((r1 = 0) → at_X12_readsOf_5 X (d + 1) K E s1 (y1) (y2) ((y3 ||| (0 : Int32))) ((y4 + (1 : Int32)))) ∧ (¬ (r1 = 0) → at_X12_readsOf_5 X (d + 1) K E s1 (y1) (y2) ((y3 ||| ((1 : Int32) <<< (y4 &&& 31)))) ((y4 + (1 : Int32))))) (fun _ _ => False)))) : at_X12_readsOf_5 X (d + 1) K E s y1 y2 y3 y4 := by
  show bi_T _ _ _ _ _
  refine bi_Tr 6 (s' := (15, [(0, .ref 77), (1, .int y1), (2, .int y2), (3, .int y3), (4, .int y4)], [.int (y1 + (7 : Int32)), .ref 90, .int y4], st_mm s)) rfl ?_
  obtain ⟨hi, h⟩ := h
  refine bi_Tial rfl rfl rfl hi ?_
  refine bi_Tr 1 (s' := ((if (st_g s 90 ((y1 + (7 : Int32))).toNatClampNeg) ≤ y4 then 47 else 19), [(0, .ref 77), (1, .int y1), (2, .int y2), (3, .int y3), (4, .int y4)], [], st_mm s)) rfl (bi_Tif (fun hc => ?_) (fun hc => ?_))
  · have h := h.1 hc
    refine bi_Tr 1 (s' := (48, [(0, .ref 77), (1, .int y1), (2, .int y2), (3, .int y3), (4, .int y4)], [.int y3], st_mm s)) rfl ?_
    exact bi_Tv rfl rfl (Or.inl ⟨_, _, rfl, h⟩)
  · have h := h.2 hc
    refine bi_Tr 5 (s' := (25, [(0, .ref 77), (1, .int y1), (2, .int y2), (3, .int y3), (4, .int y4)], [.int y4, .int y2, .int y1, .ref 77, .int y3], st_mm s)) rfl ?_
    refine bi_TcI (as := [.ref 77, .int y1, .int y2, .int y4]) rfl rfl ?_
    refine cI.mono h (fun r1 s1 h => ?_) (fun _ _ h => h.elim)
    refine bi_Tr 1 (s' := ((if r1 = 0 then 38 else 31), [(0, .ref 77), (1, .int y1), (2, .int y2), (3, .int y3), (4, .int y4)], [.int y3], st_mm s1)) rfl (bi_Tif (fun hc => ?_) (fun hc => ?_))
    · have h := h.1 hc
      refine bi_Tr 5 (s' := (5, [(4, .int (y4 + (1 : Int32))), (3, .int (y3 ||| (0 : Int32))), (0, .ref 77), (1, .int y1), (2, .int y2)], [], st_mm s1)) rfl ?_
      exact bi_Tww h rfl rfl ⟨rfl, rfl, rfl, rfl, rfl, trivial⟩
    · have h := h.2 hc
      refine bi_Tr 8 (s' := (5, [(4, .int (y4 + (1 : Int32))), (3, .int (y3 ||| ((1 : Int32) <<< (y4 &&& 31)))), (0, .ref 77), (1, .int y1), (2, .int y2)], [], st_mm s1)) rfl ?_
      exact bi_Tww h rfl rfl ⟨rfl, rfl, rfl, rfl, rfl, trivial⟩
/-- PolicyRowsModel.readsOf(II)I -/
theorem en_X12_readsOf {X : bi_X} {d : Nat} {K : Int32 → bi_St → Prop} {E : Nat → bi_St → Prop} {s : bi_St} {x0 : Int32} {x1 : Int32}  (h : at_X12_readsOf_5 X (d + 1) K E s (x0) (x1) ((0 : Int32)) ((0 : Int32))) : cI X (d + 1) 217 [.ref 77, .int x0, .int x1] s K E := by
  show bi_T _ _ _ _ _
  refine bi_Tr 4 (s' := (5, [(4, .int (0 : Int32)), (3, .int (0 : Int32)), (0, .ref 77), (1, .int x0), (2, .int x1)], [], st_mm s)) rfl ?_
  exact bi_Tww h rfl rfl ⟨rfl, rfl, rfl, rfl, rfl, trivial⟩
def at_X12_sights_4 (X : bi_X) (d : Nat) (K : Int32 → bi_St → Prop) (E : Nat → bi_St → Prop) (s : bi_St) (y1 : Int32) (y2 : Int32) (y3 : Int32) : Prop := bi_T X d 218 (4, [(0, .ref 77), (1, .int y1), (2, .int y2), (3, .int y3)], [], st_mm s) (st_RI K E)
theorem go_X12_sights_4 {X : bi_X} {d : Nat} {K : Int32 → bi_St → Prop} {E : Nat → bi_St → Prop}  {s : bi_St} {y1 : Int32} {y2 : Int32} {y3 : Int32}  (h : (((st_g s 77 27) ≤ y3) → K y2 s) ∧ (¬ ((st_g s 77 27) ≤ y3) → cI X d 217 [.ref 77, .int y1, .int y3] s (fun (r1 : Int32) (s1 : bi_St) => cI X d 166 [.int r1] s1 (fun (r2 : Int32) (s2 : bi_St) => at_X12_sights_4 X (d + 1) K E s2 (y1) ((y2 + r2)) ((y3 + (1 : Int32)))) (fun _ _ => False)) (fun _ _ => False))) : at_X12_sights_4 X (d + 1) K E s y1 y2 y3 := by
  show bi_T _ _ _ _ _
  refine bi_Tr 4 (s' := ((if (st_g s 77 27) ≤ y3 then 30 else 12), [(0, .ref 77), (1, .int y1), (2, .int y2), (3, .int y3)], [], st_mm s)) rfl (bi_Tif (fun hc => ?_) (fun hc => ?_))
  · have h := h.1 hc
    refine bi_Tr 1 (s' := (31, [(0, .ref 77), (1, .int y1), (2, .int y2), (3, .int y3)], [.int y2], st_mm s)) rfl ?_
    exact bi_Tv rfl rfl (Or.inl ⟨_, _, rfl, h⟩)
  · have h := h.2 hc
    refine bi_Tr 4 (s' := (16, [(0, .ref 77), (1, .int y1), (2, .int y2), (3, .int y3)], [.int y3, .int y1, .ref 77, .int y2], st_mm s)) rfl ?_
    refine bi_TcI (as := [.ref 77, .int y1, .int y3]) rfl rfl ?_
    refine cI.mono h (fun r1 s1 h => ?_) (fun _ _ h => h.elim)
    refine bi_TcI (as := [.int r1]) rfl rfl ?_
    refine cI.mono h (fun r2 s2 h => ?_) (fun _ _ h => h.elim)
    refine bi_Tr 4 (s' := (4, [(3, .int (y3 + (1 : Int32))), (2, .int (y2 + r2)), (0, .ref 77), (1, .int y1)], [], st_mm s2)) rfl ?_
    exact bi_Tww h rfl rfl ⟨rfl, rfl, rfl, rfl, trivial⟩
/-- PolicyRowsModel.sights(I)I -/
theorem en_X12_sights {X : bi_X} {d : Nat} {K : Int32 → bi_St → Prop} {E : Nat → bi_St → Prop} {s : bi_St} {x0 : Int32}  (h : at_X12_sights_4 X (d + 1) K E s (x0) ((0 : Int32)) ((0 : Int32))) : cI X (d + 1) 218 [.ref 77, .int x0] s K E := by
  show bi_T _ _ _ _ _
  refine bi_Tr 4 (s' := (4, [(3, .int (0 : Int32)), (2, .int (0 : Int32)), (0, .ref 77), (1, .int x0)], [], st_mm s)) rfl ?_
  exact bi_Tww h rfl rfl ⟨rfl, rfl, rfl, rfl, trivial⟩
def at_X12_weight_55 (X : bi_X) (d : Nat) (K : Int32 → bi_St → Prop) (E : Nat → bi_St → Prop) (s : bi_St) (y2 : Int32) (y3 : Int32) : Prop := bi_T X d 219 (55, [(0, .ref 77), (2, .int y2), (3, .int y3)], [], st_mm s) (st_RI K E)
theorem go_X12_weight_55 {X : bi_X} {d : Nat} {K : Int32 → bi_St → Prop} {E : Nat → bi_St → Prop}  {s : bi_St} {y2 : Int32} {y3 : Int32}  (h : (((st_g s 77 27) ≤ y3) → K y2 s) ∧ (¬ ((st_g s 77 27) ≤ y3) → cI X d 217 [.ref 77, .int (0 : Int32), .int y3] s (fun (r2 : Int32) (s2 : bi_St) => cI X d 217 [.ref 77, .int (72 : Int32), .int y3] s2 (fun (r3 : Int32) (s3 : bi_St) => cI X d 166 [.int (r2 ^^^ r3)] s3 (fun (r4 : Int32) (s4 : bi_St) => at_X12_weight_55 X (d + 1) K E s4 ((y2 + r4)) ((y3 + (1 : Int32)))) (fun _ _ => False)) (fun _ _ => False)) (fun _ _ => False))) : at_X12_weight_55 X (d + 1) K E s y2 y3 := by
  show bi_T _ _ _ _ _
  refine bi_Tr 4 (s' := ((if (st_g s 77 27) ≤ y3 then 89 else 63), [(0, .ref 77), (2, .int y2), (3, .int y3)], [], st_mm s)) rfl (bi_Tif (fun hc => ?_) (fun hc => ?_))
  · have h := h.1 hc
    refine bi_Tr 1 (s' := (90, [(0, .ref 77), (2, .int y2), (3, .int y3)], [.int y2], st_mm s)) rfl ?_
    exact bi_Tv rfl rfl (Or.inl ⟨_, _, rfl, h⟩)
  · have h := h.2 hc
    refine bi_Tr 4 (s' := (67, [(0, .ref 77), (2, .int y2), (3, .int y3)], [.int y3, .int (0 : Int32), .ref 77, .int y2], st_mm s)) rfl ?_
    refine bi_TcI (as := [.ref 77, .int (0 : Int32), .int y3]) rfl rfl ?_
    refine cI.mono h (fun r2 s2 h => ?_) (fun _ _ h => h.elim)
    refine bi_Tr 3 (s' := (74, [(0, .ref 77), (2, .int y2), (3, .int y3)], [.int y3, .int (72 : Int32), .ref 77, .int r2, .int y2], st_mm s2)) rfl ?_
    refine bi_TcI (as := [.ref 77, .int (72 : Int32), .int y3]) rfl rfl ?_
    refine cI.mono h (fun r3 s3 h => ?_) (fun _ _ h => h.elim)
    refine bi_Tr 1 (s' := (78, [(0, .ref 77), (2, .int y2), (3, .int y3)], [.int (r2 ^^^ r3), .int y2], st_mm s3)) rfl ?_
    refine bi_TcI (as := [.int (r2 ^^^ r3)]) rfl rfl ?_
    refine cI.mono h (fun r4 s4 h => ?_) (fun _ _ h => h.elim)
    refine bi_Tr 4 (s' := (55, [(3, .int (y3 + (1 : Int32))), (2, .int (y2 + r4)), (0, .ref 77)], [], st_mm s4)) rfl ?_
    exact bi_Tww h rfl rfl ⟨rfl, rfl, rfl, trivial⟩
/-- PolicyRowsModel.weight(I)I -/
theorem en_X12_weight {X : bi_X} {d : Nat} {K : Int32 → bi_St → Prop} {E : Nat → bi_St → Prop} {s : bi_St} {x0 : Int32}  (h : cV X d 207 [.ref 77] s (fun (s1 : bi_St) => bi_in (6 : Int32) 144 = true ∧ (((¬ (((st_g s1 90 ((6 : Int32)).toNatClampNeg) >>> (x0 &&& 31)) &&& (1 : Int32)) = (1 : Int32)) → bi_in (6 : Int32) 144 = true ∧ (bi_in (78 : Int32) 144 = true ∧ (at_X12_weight_55 X (d + 1) K E (st_p s1 90 ((78 : Int32)).toNatClampNeg ((st_g s1 90 ((6 : Int32)).toNatClampNeg) + ((1 : Int32) <<< (x0 &&& 31)))) ((0 : Int32)) ((0 : Int32))))) ∧ (¬ (¬ (((st_g s1 90 ((6 : Int32)).toNatClampNeg) >>> (x0 &&& 31)) &&& (1 : Int32)) = (1 : Int32)) → bi_in (6 : Int32) 144 = true ∧ (bi_in (78 : Int32) 144 = true ∧ (at_X12_weight_55 X (d + 1) K E (st_p s1 90 ((78 : Int32)).toNatClampNeg ((st_g s1 90 ((6 : Int32)).toNatClampNeg) - ((1 : Int32) <<< (x0 &&& 31)))) ((0 : Int32)) ((0 : Int32))))))) (fun _ _ => False)) : cI X (d + 1) 219 [.ref 77, .int x0] s K E := by
  show bi_T _ _ _ _ _
  refine bi_Tr 1 (s' := (1, [(0, .ref 77), (1, .int x0)], [.ref 77], st_mm s)) rfl ?_
  refine bi_TcV (as := [.ref 77]) rfl rfl ?_
  refine cV.mono h (fun s1 h => ?_) (fun _ _ h => h.elim)
  refine bi_Tr 6 (s' := (16, [(0, .ref 77), (1, .int x0)], [.int (6 : Int32), .ref 90, .int (78 : Int32), .ref 90], st_mm s1)) rfl ?_
  obtain ⟨hi, h⟩ := h
  refine bi_Tial rfl rfl rfl hi ?_
  refine bi_Tr 6 (s' := ((if ¬ (((st_g s1 90 ((6 : Int32)).toNatClampNeg) >>> (x0 &&& 31)) &&& (1 : Int32)) = (1 : Int32) then 39 else 25), [(0, .ref 77), (1, .int x0)], [.int (78 : Int32), .ref 90], st_mm s1)) rfl (bi_Tif (fun hc => ?_) (fun hc => ?_))
  · have h := h.1 hc
    refine bi_Tr 3 (s' := (45, [(0, .ref 77), (1, .int x0)], [.int (6 : Int32), .ref 90, .int (78 : Int32), .ref 90], st_mm s1)) rfl ?_
    obtain ⟨hi, h⟩ := h
    refine bi_Tial rfl rfl rfl hi ?_
    refine bi_Tr 4 (s' := (50, [(0, .ref 77), (1, .int x0)], [.int ((st_g s1 90 ((6 : Int32)).toNatClampNeg) + ((1 : Int32) <<< (x0 &&& 31))), .int (78 : Int32), .ref 90], st_mm s1)) rfl ?_
    obtain ⟨hi, h⟩ := h
    refine bi_Tias rfl rfl hi ?_
    refine bi_Tr 4 (s' := (55, [(3, .int (0 : Int32)), (2, .int (0 : Int32)), (0, .ref 77), (1, .int x0)], [], st_mm (st_p s1 90 ((78 : Int32)).toNatClampNeg ((st_g s1 90 ((6 : Int32)).toNatClampNeg) + ((1 : Int32) <<< (x0 &&& 31)))))) rfl ?_
    exact bi_Tww h rfl rfl ⟨rfl, rfl, rfl, trivial⟩
  · have h := h.2 hc
    refine bi_Tr 3 (s' := (31, [(0, .ref 77), (1, .int x0)], [.int (6 : Int32), .ref 90, .int (78 : Int32), .ref 90], st_mm s1)) rfl ?_
    obtain ⟨hi, h⟩ := h
    refine bi_Tial rfl rfl rfl hi ?_
    refine bi_Tr 5 (s' := (50, [(0, .ref 77), (1, .int x0)], [.int ((st_g s1 90 ((6 : Int32)).toNatClampNeg) - ((1 : Int32) <<< (x0 &&& 31))), .int (78 : Int32), .ref 90], st_mm s1)) rfl ?_
    obtain ⟨hi, h⟩ := h
    refine bi_Tias rfl rfl hi ?_
    refine bi_Tr 4 (s' := (55, [(3, .int (0 : Int32)), (2, .int (0 : Int32)), (0, .ref 77), (1, .int x0)], [], st_mm (st_p s1 90 ((78 : Int32)).toNatClampNeg ((st_g s1 90 ((6 : Int32)).toNatClampNeg) - ((1 : Int32) <<< (x0 &&& 31)))))) rfl ?_
    exact bi_Tww h rfl rfl ⟨rfl, rfl, rfl, trivial⟩
def at_X12_needless_4 (X : bi_X) (d : Nat) (K : Int32 → bi_St → Prop) (E : Nat → bi_St → Prop) (s : bi_St) (y1 : Int32) (y2 : Int32) : Prop := bi_T X d 220 (4, [(0, .ref 77), (1, .int y1), (2, .int y2)], [], st_mm s) (st_RI K E)
theorem go_X12_needless_4 {X : bi_X} {d : Nat} {K : Int32 → bi_St → Prop} {E : Nat → bi_St → Prop}  {s : bi_St} {y1 : Int32} {y2 : Int32}  (h : (((st_g s 77 29) ≤ y2) → K y1 s) ∧ (¬ ((st_g s 77 29) ≤ y2) → bi_in (6 : Int32) 144 = true ∧ (((¬ (((st_g s 90 ((6 : Int32)).toNatClampNeg) >>> (y2 &&& 31)) &&& (1 : Int32)) = (1 : Int32)) → at_X12_needless_4 X (d + 1) K E s ((y1 ||| (0 : Int32))) ((y2 + (1 : Int32)))) ∧ (¬ (¬ (((st_g s 90 ((6 : Int32)).toNatClampNeg) >>> (y2 &&& 31)) &&& (1 : Int32)) = (1 : Int32)) → cI X d 219 [.ref 77, .int y2] s (fun (r1 : Int32) (s1 : bi_St) => ((¬ r1 = 0) → at_X12_needless_4 X (d + 1) K E s1 ((y1 ||| (0 : Int32))) ((y2 + (1 : Int32)))) ∧ (¬ (¬ r1 = 0) → at_X12_needless_4 X (d + 1) K E s1 ((y1 ||| ((1 : Int32) <<< (y2 &&& 31)))) ((y2 + (1 : Int32))))) (fun _ _ => False))))) : at_X12_needless_4 X (d + 1) K E s y1 y2 := by
  show bi_T _ _ _ _ _
  refine bi_Tr 4 (s' := ((if (st_g s 77 29) ≤ y2 then 51 else 12), [(0, .ref 77), (1, .int y1), (2, .int y2)], [], st_mm s)) rfl (bi_Tif (fun hc => ?_) (fun hc => ?_))
  · have h := h.1 hc
    refine bi_Tr 1 (s' := (52, [(0, .ref 77), (1, .int y1), (2, .int y2)], [.int y1], st_mm s)) rfl ?_
    exact bi_Tv rfl rfl (Or.inl ⟨_, _, rfl, h⟩)
  · have h := h.2 hc
    refine bi_Tr 4 (s' := (19, [(0, .ref 77), (1, .int y1), (2, .int y2)], [.int (6 : Int32), .ref 90, .int y1], st_mm s)) rfl ?_
    obtain ⟨hi, h⟩ := h
    refine bi_Tial rfl rfl rfl hi ?_
    refine bi_Tr 6 (s' := ((if ¬ (((st_g s 90 ((6 : Int32)).toNatClampNeg) >>> (y2 &&& 31)) &&& (1 : Int32)) = (1 : Int32) then 42 else 28), [(0, .ref 77), (1, .int y1), (2, .int y2)], [.int y1], st_mm s)) rfl (bi_Tif (fun hc => ?_) (fun hc => ?_))
    · have h := h.1 hc
      refine bi_Tr 5 (s' := (4, [(2, .int (y2 + (1 : Int32))), (1, .int (y1 ||| (0 : Int32))), (0, .ref 77)], [], st_mm s)) rfl ?_
      exact bi_Tww h rfl rfl ⟨rfl, rfl, rfl, trivial⟩
    · have h := h.2 hc
      refine bi_Tr 2 (s' := (30, [(0, .ref 77), (1, .int y1), (2, .int y2)], [.int y2, .ref 77, .int y1], st_mm s)) rfl ?_
      refine bi_TcI (as := [.ref 77, .int y2]) rfl rfl ?_
      refine cI.mono h (fun r1 s1 h => ?_) (fun _ _ h => h.elim)
      refine bi_Tr 1 (s' := ((if ¬ r1 = 0 then 42 else 36), [(0, .ref 77), (1, .int y1), (2, .int y2)], [.int y1], st_mm s1)) rfl (bi_Tif (fun hc => ?_) (fun hc => ?_))
      · have h := h.1 hc
        refine bi_Tr 5 (s' := (4, [(2, .int (y2 + (1 : Int32))), (1, .int (y1 ||| (0 : Int32))), (0, .ref 77)], [], st_mm s1)) rfl ?_
        exact bi_Tww h rfl rfl ⟨rfl, rfl, rfl, trivial⟩
      · have h := h.2 hc
        refine bi_Tr 8 (s' := (4, [(2, .int (y2 + (1 : Int32))), (1, .int (y1 ||| ((1 : Int32) <<< (y2 &&& 31)))), (0, .ref 77)], [], st_mm s1)) rfl ?_
        exact bi_Tww h rfl rfl ⟨rfl, rfl, rfl, trivial⟩
/-- PolicyRowsModel.needless()I -/
theorem en_X12_needless {X : bi_X} {d : Nat} {K : Int32 → bi_St → Prop} {E : Nat → bi_St → Prop} {s : bi_St}   (h : at_X12_needless_4 X (d + 1) K E s ((0 : Int32)) ((0 : Int32))) : cI X (d + 1) 220 [.ref 77] s K E := by
  show bi_T _ _ _ _ _
  refine bi_Tr 4 (s' := (4, [(2, .int (0 : Int32)), (1, .int (0 : Int32)), (0, .ref 77)], [], st_mm s)) rfl ?_
  exact bi_Tww h rfl rfl ⟨rfl, rfl, rfl, trivial⟩
/-- PolicyRowsModel.count(I)I -/
theorem en_X12_count {X : bi_X} {d : Nat} {K : Int32 → bi_St → Prop} {E : Nat → bi_St → Prop} {s : bi_St} {x0 : Int32}  (h : cI X d 164 [.int x0, .int (0 : Int32), .int (12 : Int32)] (st_p s 77 0 (0 : Int32)) (fun (r1 : Int32) (s1 : bi_St) => cI X d 163 [.ref 77, .int r1, .int (1 : Int32)] s1 (fun (r2 : Int32) (s2 : bi_St) => ((¬ r2 = 0) → ((x0 = (0 : Int32)) → K (st_g s2 77 27) s2) ∧ (¬ (x0 = (0 : Int32)) → ((x0 = (1 : Int32)) → K (st_g s2 77 28) s2) ∧ (¬ (x0 = (1 : Int32)) → ((x0 = (2 : Int32)) → bi_in (7 : Int32) 144 = true ∧ (K (st_g s2 90 ((7 : Int32)).toNatClampNeg) s2)) ∧ (¬ (x0 = (2 : Int32)) → ((x0 = (3 : Int32)) → K (st_g s2 77 29) s2) ∧ (¬ (x0 = (3 : Int32)) → ((x0 = (4 : Int32)) → K (st_g s2 77 30) s2) ∧ (¬ (x0 = (4 : Int32)) → ((x0 = (5 : Int32)) → cI X d 218 [.ref 77, .int (0 : Int32)] s2 (fun (r3 : Int32) (s3 : bi_St) => K r3 s3) (fun _ _ => False)) ∧ (¬ (x0 = (5 : Int32)) → ((x0 = (6 : Int32)) → cI X d 220 [.ref 77] s2 (fun (r4 : Int32) (s4 : bi_St) => K r4 s4) (fun _ _ => False)) ∧ (¬ (x0 = (6 : Int32)) → ((x0 = (7 : Int32)) → K (st_g s2 77 40) s2) ∧ (¬ (x0 = (7 : Int32)) → ((x0 = (8 : Int32)) → K (st_g s2 77 62) s2) ∧ (¬ (x0 = (8 : Int32)) → ((x0 = (9 : Int32)) → K (st_g s2 77 2) s2) ∧ (¬ (x0 = (9 : Int32)) → bi_in (x0 - (10 : Int32)) 3 = true ∧ (K (st_g s2 79 ((x0 - (10 : Int32))).toNatClampNeg) s2)))))))))))) ∧ (¬ (¬ r2 = 0) → K (0 : Int32) s2)) (fun _ _ => False)) (fun _ _ => False)) : cI X (d + 1) 221 [.ref 77, .int x0] s K E := by
  show bi_T _ _ _ _ _
  refine bi_Tr 7 (s' := (10, [(0, .ref 77), (1, .int x0)], [.int (12 : Int32), .int (0 : Int32), .int x0, .ref 77], st_mm (st_p s 77 0 (0 : Int32)))) rfl ?_
  refine bi_TcI (as := [.int x0, .int (0 : Int32), .int (12 : Int32)]) rfl rfl ?_
  refine cI.mono h (fun r1 s1 h => ?_) (fun _ _ h => h.elim)
  refine bi_Tr 1 (s' := (14, [(0, .ref 77), (1, .int x0)], [.int (1 : Int32), .int r1, .ref 77], st_mm s1)) rfl ?_
  refine bi_TcI (as := [.ref 77, .int r1, .int (1 : Int32)]) rfl rfl ?_
  refine cI.mono h (fun r2 s2 h => ?_) (fun _ _ h => h.elim)
  refine bi_Tr 1 (s' := ((if ¬ r2 = 0 then 22 else 20), [(0, .ref 77), (1, .int x0)], [], st_mm s2)) rfl (bi_Tif (fun hc => ?_) (fun hc => ?_))
  · have h := h.1 hc
    refine bi_Tr 1 (s' := (23, [(0, .ref 77), (1, .int x0)], [.int x0], st_mm s2)) rfl ?_
    refine bi_Tsw rfl (fun t ht => ?_) (bi_swn (b := 130) rfl (by decide) (by decide))
    by_cases hc : x0 = (0 : Int32)
    · rw [hc] at ht; cases ht
      have h := h.1 hc
      refine bi_Tr 2 (s' := (80, [(0, .ref 77), (1, .int x0)], [.int (st_g s2 77 27)], st_mm s2)) rfl ?_
      exact bi_Tv rfl rfl (Or.inl ⟨_, _, rfl, h⟩)
    have h := h.2 hc
    have hn0 := lv_neT hc (a := 0) rfl
    by_cases hc : x0 = (1 : Int32)
    · rw [hc] at ht; cases ht
      have h := h.1 hc
      refine bi_Tr 2 (s' := (85, [(0, .ref 77), (1, .int x0)], [.int (st_g s2 77 28)], st_mm s2)) rfl ?_
      exact bi_Tv rfl rfl (Or.inl ⟨_, _, rfl, h⟩)
    have h := h.2 hc
    have hn1 := lv_neT hc (a := 1) rfl
    by_cases hc : x0 = (2 : Int32)
    · rw [hc] at ht; cases ht
      have h := h.1 hc
      refine bi_Tr 3 (s' := (92, [(0, .ref 77), (1, .int x0)], [.int (7 : Int32), .ref 90], st_mm s2)) rfl ?_
      obtain ⟨hi, h⟩ := h
      refine bi_Tial rfl rfl rfl hi ?_
      exact bi_Tv rfl rfl (Or.inl ⟨_, _, rfl, h⟩)
    have h := h.2 hc
    have hn2 := lv_neT hc (a := 2) rfl
    by_cases hc : x0 = (3 : Int32)
    · rw [hc] at ht; cases ht
      have h := h.1 hc
      refine bi_Tr 2 (s' := (98, [(0, .ref 77), (1, .int x0)], [.int (st_g s2 77 29)], st_mm s2)) rfl ?_
      exact bi_Tv rfl rfl (Or.inl ⟨_, _, rfl, h⟩)
    have h := h.2 hc
    have hn3 := lv_neT hc (a := 3) rfl
    by_cases hc : x0 = (4 : Int32)
    · rw [hc] at ht; cases ht
      have h := h.1 hc
      refine bi_Tr 2 (s' := (103, [(0, .ref 77), (1, .int x0)], [.int (st_g s2 77 30)], st_mm s2)) rfl ?_
      exact bi_Tv rfl rfl (Or.inl ⟨_, _, rfl, h⟩)
    have h := h.2 hc
    have hn4 := lv_neT hc (a := 4) rfl
    by_cases hc : x0 = (5 : Int32)
    · rw [hc] at ht; cases ht
      have h := h.1 hc
      refine bi_Tr 2 (s' := (106, [(0, .ref 77), (1, .int x0)], [.int (0 : Int32), .ref 77], st_mm s2)) rfl ?_
      refine bi_TcI (as := [.ref 77, .int (0 : Int32)]) rfl rfl ?_
      refine cI.mono h (fun r3 s3 h => ?_) (fun _ _ h => h.elim)
      exact bi_Tv rfl rfl (Or.inl ⟨_, _, rfl, h⟩)
    have h := h.2 hc
    have hn5 := lv_neT hc (a := 5) rfl
    by_cases hc : x0 = (6 : Int32)
    · rw [hc] at ht; cases ht
      have h := h.1 hc
      refine bi_Tr 1 (s' := (111, [(0, .ref 77), (1, .int x0)], [.ref 77], st_mm s2)) rfl ?_
      refine bi_TcI (as := [.ref 77]) rfl rfl ?_
      refine cI.mono h (fun r4 s4 h => ?_) (fun _ _ h => h.elim)
      exact bi_Tv rfl rfl (Or.inl ⟨_, _, rfl, h⟩)
    have h := h.2 hc
    have hn6 := lv_neT hc (a := 6) rfl
    by_cases hc : x0 = (7 : Int32)
    · rw [hc] at ht; cases ht
      have h := h.1 hc
      refine bi_Tr 2 (s' := (119, [(0, .ref 77), (1, .int x0)], [.int (st_g s2 77 40)], st_mm s2)) rfl ?_
      exact bi_Tv rfl rfl (Or.inl ⟨_, _, rfl, h⟩)
    have h := h.2 hc
    have hn7 := lv_neT hc (a := 7) rfl
    by_cases hc : x0 = (8 : Int32)
    · rw [hc] at ht; cases ht
      have h := h.1 hc
      refine bi_Tr 2 (s' := (124, [(0, .ref 77), (1, .int x0)], [.int (st_g s2 77 62)], st_mm s2)) rfl ?_
      exact bi_Tv rfl rfl (Or.inl ⟨_, _, rfl, h⟩)
    have h := h.2 hc
    have hn8 := lv_neT hc (a := 8) rfl
    by_cases hc : x0 = (9 : Int32)
    · rw [hc] at ht; cases ht
      have h := h.1 hc
      refine bi_Tr 2 (s' := (129, [(0, .ref 77), (1, .int x0)], [.int (st_g s2 77 2)], st_mm s2)) rfl ?_
      exact bi_Tv rfl rfl (Or.inl ⟨_, _, rfl, h⟩)
    have h := h.2 hc
    have hn9 := lv_neT hc (a := 9) rfl
    have ht : bi_tg 23 107 = some t := bi_swd ht (fun h1 h2 => by omega)
    cases ht
    refine bi_Tr 5 (s' := (138, [(0, .ref 77), (1, .int x0)], [.int (x0 - (10 : Int32)), .ref 79], st_mm s2)) rfl ?_
    obtain ⟨hi, h⟩ := h
    refine bi_Tial rfl rfl rfl hi ?_
    exact bi_Tv rfl rfl (Or.inl ⟨_, _, rfl, h⟩)
  · have h := h.2 hc
    refine bi_Tr 1 (s' := (21, [(0, .ref 77), (1, .int x0)], [.int (0 : Int32)], st_mm s2)) rfl ?_
    exact bi_Tv rfl rfl (Or.inl ⟨_, _, rfl, h⟩)
