section START2
def bi_fl : List Cond := flatC (Jvm.Cond.and given_1 narrow_1)
def bi_tm (i : Nat) : Term := .string (bi_tn.getD i ("", 0, "")).1 (bi_tn.getD i ("", 0, "")).2.1
def bi_tv (i : Nat) : Term := .field (bi_tm i) "java/lang/String" "value" "[B"
theorem bi_tn_len : bi_tn.length = 25 := by decide +kernel
theorem bi_f0 : (List.range 25).all (fun i => Nat.blt (bi_tlen.getD i 0) 100 && decide (Cond.exactly (bi_tm i) "java/lang/String" ∈ bi_fl) && decide (Cond.eq (.field (bi_tm i) "java/lang/String" "coder" "B") (.int 0) ∈ bi_fl)) = true := by decide +kernel
theorem bi_f1 : (List.range 25).all (fun i => decide (Cond.arrayOf (bi_tv i) .byte ∈ bi_fl) && decide (Cond.eq (.length (bi_tv i)) (.int (Int32.ofNat (bi_tlen.getD i 0))) ∈ bi_fl)) = true := by decide +kernel
theorem bi_f2 : (List.range 25).all (fun i => (List.range (bi_tlen.getD i 0)).all (fun j => decide (Cond.eq (.elem (bi_tv i) (.int (Int32.ofNat j))) (.int ((bi_tbyt.getD i []).getD j 0)) ∈ bi_fl))) = true := by decide +kernel
def bi_isne (w : Cond) : Bool := match w with
  | .not (.eq _ _) => true
  | _ => false
def bi_ne : List (Nat × Nat) := [(6, 7), (6, 8), (7, 8), (6, 9), (7, 9), (8, 9), (6, 10), (7, 10), (8, 10), (9, 10), (6, 14), (7, 14), (8, 14), (9, 14), (10, 14), (6, 15), (7, 15), (8, 15), (9, 15), (10, 15), (14, 15), (6, 16), (7, 16), (8, 16), (9, 16), (10, 16), (14, 16), (15, 16), (6, 17), (7, 17), (8, 17), (9, 17), (10, 17), (14, 17), (15, 17), (16, 17), (6, 18), (7, 18), (8, 18), (9, 18), (10, 18), (14, 18), (15, 18), (16, 18), (17, 18), (6, 19), (7, 19), (8, 19), (9, 19), (10, 19), (14, 19), (15, 19), (16, 19), (17, 19), (18, 19), (6, 12), (7, 12), (8, 12), (9, 12), (10, 12), (14, 12), (15, 12), (16, 12), (17, 12), (18, 12), (19, 12), (6, 2), (7, 2), (8, 2), (9, 2), (10, 2), (14, 2), (15, 2), (16, 2), (17, 2), (18, 2), (19, 2), (12, 2), (6, 3), (7, 3), (8, 3), (9, 3), (10, 3), (14, 3), (15, 3), (16, 3), (17, 3), (18, 3), (19, 3), (12, 3), (2, 3), (6, 4), (7, 4), (8, 4), (9, 4), (10, 4), (14, 4), (15, 4), (16, 4), (17, 4), (18, 4), (19, 4), (12, 4), (2, 4), (3, 4), (6, 5), (7, 5), (8, 5), (9, 5), (10, 5), (14, 5), (15, 5), (16, 5), (17, 5), (18, 5), (19, 5), (12, 5), (2, 5), (3, 5), (4, 5), (6, 1), (7, 1), (8, 1), (9, 1), (10, 1), (14, 1), (15, 1), (16, 1), (17, 1), (18, 1), (19, 1), (12, 1), (2, 1), (3, 1), (4, 1), (5, 1), (6, 0), (7, 0), (8, 0), (9, 0), (10, 0), (14, 0), (15, 0), (16, 0), (17, 0), (18, 0), (19, 0), (12, 0), (2, 0), (3, 0), (4, 0), (5, 0), (1, 0), (6, 13), (7, 13), (8, 13), (9, 13), (10, 13), (14, 13), (15, 13), (16, 13), (17, 13), (18, 13), (19, 13), (12, 13), (2, 13), (3, 13), (4, 13), (5, 13), (1, 13), (0, 13), (6, 11), (7, 11), (8, 11), (9, 11), (10, 11), (14, 11), (15, 11), (16, 11), (17, 11), (18, 11), (19, 11), (12, 11), (2, 11), (3, 11), (4, 11), (5, 11), (1, 11), (0, 11), (13, 11), (6, 22), (7, 22), (8, 22), (9, 22), (10, 22), (14, 22), (15, 22), (16, 22), (17, 22), (18, 22), (19, 22), (12, 22), (2, 22), (3, 22), (4, 22), (5, 22), (1, 22), (0, 22), (13, 22), (11, 22), (6, 23), (7, 23), (8, 23), (9, 23), (10, 23), (14, 23), (15, 23), (16, 23), (17, 23), (18, 23), (19, 23), (12, 23), (2, 23), (3, 23), (4, 23), (5, 23), (1, 23), (0, 23), (13, 23), (11, 23), (22, 23), (6, 20), (7, 20), (8, 20), (9, 20), (10, 20), (14, 20), (15, 20), (16, 20), (17, 20), (18, 20), (19, 20), (12, 20), (2, 20), (3, 20), (4, 20), (5, 20), (1, 20), (0, 20), (13, 20), (11, 20), (22, 20), (23, 20), (6, 24), (7, 24), (8, 24), (9, 24), (10, 24), (14, 24), (15, 24), (16, 24), (17, 24), (18, 24), (19, 24), (12, 24), (2, 24), (3, 24), (4, 24), (5, 24), (1, 24), (0, 24), (13, 24), (11, 24), (22, 24), (23, 24), (20, 24), (6, 21), (7, 21), (8, 21), (9, 21), (10, 21), (14, 21), (15, 21), (16, 21), (17, 21), (18, 21), (19, 21), (12, 21), (2, 21), (3, 21), (4, 21), (5, 21), (1, 21), (0, 21), (13, 21), (11, 21), (22, 21), (23, 21), (20, 21), (24, 21)]
theorem bi_f3a : bi_fl.filter bi_isne = bi_ne.map (fun q => Cond.not (Cond.eq (bi_tm q.1) (bi_tm q.2))) := by decide +kernel
theorem bi_f3b : (List.range 25).all (fun i => (List.range 25).all (fun j => Nat.beq i j || bi_ne.any (fun q => Nat.beq q.1 i && Nat.beq q.2 j) || bi_ne.any (fun q => Nat.beq q.1 j && Nat.beq q.2 i))) = true := by decide +kernel
theorem bi_f3c {i j : Nat} (h : bi_ne.any (fun q => Nat.beq q.1 i && Nat.beq q.2 j) = true) : Cond.not (Cond.eq (bi_tm i) (bi_tm j)) ∈ bi_fl := by
  obtain ⟨q, hq, h1⟩ := List.any_eq_true.mp h
  simp only [Bool.and_eq_true] at h1
  have e1 := Nat.eq_of_beq_eq_true h1.1
  have e2 := Nat.eq_of_beq_eq_true h1.2
  have h2 : Cond.not (Cond.eq (bi_tm q.1) (bi_tm q.2)) ∈ bi_fl.filter bi_isne := by rw [bi_f3a]; exact List.mem_map.mpr ⟨q, hq, rfl⟩
  rw [e1, e2] at h2
  exact (List.mem_filter.mp h2).1
theorem bi_f4 : bi_tn.all (fun t => decide (Cond.stringRef t.1 t.2.1 t.2.2 ∈ tables_1)) = true := by decide +kernel
theorem bi_f5 : bi_N9.all (fun t => decide (Cond.methodLinkNest t.1 t.2.1 t.2.2 "PolicyRows" ∈ tables_1)) = true := by decide +kernel
variable {s : State} {args : Array Value}
theorem bi_start_S {bs : Nat} (hts : ∀ w ∈ lw_tbl, w.before args s = true) (hgv : (Jvm.Cond.and given_1 narrow_1).before args s = true) (hbs : bs = s.heap.size) : ∃ tx adV : Nat → Nat, bi_Sx bs tx adV s s.heap ∧ ∀ (q : Nat) (t : String × Nat × String), bi_tn[q]? = some t → vk_R t.1 t.2.1 t.2.2 (tx q) s := by
  have ht : ∀ w ∈ tables_1, w.before args s = true := fun w hw => hts w (List.mem_append_right _ hw)
  have hg : ∀ w ∈ bi_fl, w.before args s = true := flat_of_before _ hgv
  have hA : ∀ a : Nat, a < s.heap.size → ¬ bi_A bs a := fun a h z => by have z : bs ≤ a := z; omega
  have g0 : ∀ i, i < 25 → (bi_tlen.getD i 0 < 100 ∧ Cond.exactly (bi_tm i) "java/lang/String" ∈ bi_fl) ∧ Cond.eq (.field (bi_tm i) "java/lang/String" "coder" "B") (.int 0) ∈ bi_fl := fun i hi => by
    have := List.all_eq_true.mp bi_f0 i (List.mem_range.mpr hi)
    simpa only [Bool.and_eq_true, decide_eq_true_eq, Nat.blt_eq] using this
  have g1 : ∀ i, i < 25 → Cond.arrayOf (bi_tv i) .byte ∈ bi_fl ∧ Cond.eq (.length (bi_tv i)) (.int (Int32.ofNat (bi_tlen.getD i 0))) ∈ bi_fl := fun i hi => by
    have := List.all_eq_true.mp bi_f1 i (List.mem_range.mpr hi)
    simpa only [Bool.and_eq_true, decide_eq_true_eq] using this
  have g2 : ∀ i, i < 25 → ∀ j, j < bi_tlen.getD i 0 → Cond.eq (.elem (bi_tv i) (.int (Int32.ofNat j))) (.int ((bi_tbyt.getD i []).getD j 0)) ∈ bi_fl := fun i hi j hj => of_decide_eq_true (List.all_eq_true.mp (List.all_eq_true.mp bi_f2 i (List.mem_range.mpr hi)) j (List.mem_range.mpr hj))
  obtain ⟨adK, adV, hS, hE⟩ := vk_Sof (args := args) (s := s) (N := 25) (tm := bi_tm) (len := bi_tlen) (byt := bi_tbyt) (A := bi_A bs) (fun i hi => Nat.lt_trans (g0 i hi).1.1 (by decide)) (fun i hi => hg _ (g0 i hi).1.2) (fun i hi => hg _ (g0 i hi).2) (fun i hi => hg _ (g1 i hi).1) (fun i hi => hg _ (g1 i hi).2) (fun i hi j hj => hg _ (g2 i hi j hj))
    (fun i j hi hj hij => by
      have := List.all_eq_true.mp (List.all_eq_true.mp bi_f3b i (List.mem_range.mpr hi)) j (List.mem_range.mpr hj)
      simp only [Bool.or_eq_true] at this
      rcases this with (h | h) | h
      · exact absurd (Nat.eq_of_beq_eq_true h) hij
      · exact Or.inl (hg _ (bi_f3c h))
      · exact Or.inr (hg _ (bi_f3c h))) hA
  refine ⟨adK, adV, ⟨hS, ?_, ?_⟩, fun q t hq => ?_⟩
  · exact va_Zof (ht _ (List.mem_of_getElem? (i := 716) (by decide +kernel))) (ht _ (List.mem_of_getElem? (i := 19) (by decide +kernel))) (va_eqt (hg (Cond.eq (.static "java/lang/String" "COMPACT_STRINGS" "Z") (.int 1)) (by decide +kernel))) hA
  · exact va_Zqof (ht _ (List.mem_of_getElem? (i := 732) (by decide +kernel))) (ht _ (List.mem_of_getElem? (i := 21) (by decide +kernel))) (hg (Cond.isRef (.static "jdk/internal/util/Preconditions" "SIOOBE_FORMATTER" "Ljava/util/function/BiFunction;")) (by decide +kernel)) hA
  · have hl : q < 25 := by
      have := (List.getElem?_eq_some_iff.mp hq).1
      rw [bi_tn_len] at this
      exact this
    have h1 := hE q hl
    have h2 : bi_tn.getD q ("", 0, "") = t := by rw [List.getD_eq_getElem?_getD, hq]; rfl
    unfold bi_tm at h1
    rw [h2] at h1
    exact vk_R.of (ht _ (of_decide_eq_true (List.all_eq_true.mp bi_f4 t (List.mem_of_getElem? hq)))) h1
/-- what the start gives -/
theorem bi_start_E {b L : Nat} {xs : Nat → Int32} (hts : ∀ w ∈ lw_tbl, w.before args s = true) (hgv : (Jvm.Cond.and given_1 narrow_1).before args s = true) (hX : va_X b L xs s s.heap) (hb : b < s.heap.size) :
    ∃ (D : va_G) (cA : Nat → ClassId) (tx adV : Nat → Nat), bi_En D cA tx s ∧ bi_Gx s.heap.size b (L, xs) (bi_Sx s.heap.size tx adV) s s.heap := by
  have ht : ∀ w ∈ tables_1, w.before args s = true := fun w hw => hts w (List.mem_append_right _ hw)
  have hg : ∀ w ∈ bi_fl, w.before args s = true := flat_of_before _ hgv
  have hA : ∀ a : Nat, a < s.heap.size → ¬ bi_A s.heap.size a := fun a h z => by have z : s.heap.size ≤ a := z; omega
  obtain ⟨D, cA, hK, hAO⟩ := bi_start_K hts
  obtain ⟨tx, adV, hS, hR⟩ := bi_start_S (bs := s.heap.size) hts hgv rfl
  have n0 : ∀ (w : Cond), w.onTables = true → w ∈ tables_1 → va_Nw w s := fun w hw hm => va_tabs hw rfl (ht w hm)
  refine ⟨D, cA, tx, adV, ⟨hK, hAO, hR, fun t ht9 => n0 _ rfl (of_decide_eq_true (List.all_eq_true.mp bi_f5 t ht9)), va_Nc.of (hg (Cond.not (.castable "java/lang/IllegalArgumentException" "java/util/NoSuchElementException")) (by decide +kernel)), n0 _ rfl (List.mem_of_getElem? (i := 922) (by decide +kernel)), n0 _ rfl (List.mem_of_getElem? (i := 606) (by decide +kernel))⟩, ⟨hX, hb, Nat.le_refl _⟩, ?_, ?_, hS, n0 _ rfl (List.mem_of_getElem? (i := 607) (by decide +kernel)), n0 _ rfl (List.mem_of_getElem? (i := 609) (by decide +kernel)), n0 _ rfl (List.mem_of_getElem? (i := 611) (by decide +kernel))⟩
  · exact vx_Zqof (ht _ (List.mem_of_getElem? (i := 631) (by decide +kernel))) (ht _ (List.mem_of_getElem? (i := 14) (by decide +kernel))) (hg (Cond.isRef (.static "java/lang/Throwable" "UNASSIGNED_STACK" "[Ljava/lang/StackTraceElement;")) (by decide +kernel)) hA
  · exact vx_Zqof (ht _ (List.mem_of_getElem? (i := 633) (by decide +kernel))) (ht _ (List.mem_of_getElem? (i := 14) (by decide +kernel))) (hg (Cond.isRef (.static "java/lang/Throwable" "SUPPRESSED_SENTINEL" "Ljava/util/List;")) (by decide +kernel)) hA
end START2
