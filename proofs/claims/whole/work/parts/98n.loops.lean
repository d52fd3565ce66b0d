/-! ===== the reference's loops over cells and numbers ===== -/
section LOOPS
theorem ct_escapesL {X : bi_X} {d : Nat} {K : Int32 → bi_St → Prop} {E : Nat → bi_St → Prop} {s : bi_St} {C R p u : Nat} {f : Nat → Pol} {S : Sta} {T : (Nat → Int32) × Int32} {w : Int32} (hj : RC s 0 C R p f S) (h28 : st_g s 77 28 = zI C) (hu : u < 6)
    (k : ∀ t, fr wT s t → K (if w = 0 then (sr3 R p f S 0 (gE p f S u) C S.2.2.1 (0, -1, T)).1 else (sr3 R p f S 0 (gE p f S u) C S.2.2.1 (0, -1, T)).2.1) t) : at_X12_escapes_32 X (d + 6) K E s (zI u) w 0 (-1) 0 := by
  have hn := hj.2.1.2.1
  have hC := hj.1.1
  have e7 : ((7 : Int32)).toNatClampNeg = 7 := rfl
  have in1 : ∀ r c (q : Qs), r < S.2.2.1 → c < C → (∀ t, fr wT s t → at_X12_escapes_47 X (d + 6) K E t (zI u) w (sr1 R p f S 0 (gE p f S u) r c 19 q).1 (sr1 R p f S 0 (gE p f S u) r c 19 q).2.1 (zI r) (zI (c + 1))) → ∀ e n (t : bi_St), e = 19 - n → n ≤ 19 → fr wT s t → at_X12_escapes_60 X (d + 6) K E t (zI u) w (sr1 R p f S 0 (gE p f S u) r c n q).1 (sr1 R p f S 0 (gE p f S u) r c n q).2.1 (zI r) (zI c) (vv n) := by
    intro r c q hr hc hk e
    induction e with
    | zero =>
      intro n t he hn ht
      have : n = 19 := by omega
      subst this
      exact go_X12_escapes_60 ⟨fun _ => by rw [zI_add1]; exact hk t ht, fun z => absurd ((vv_19 (by omega)).2.mpr rfl) z⟩
    | succ e ih =>
      intro n t he hn2 ht
      refine go_X12_escapes_60 ⟨fun z => ?_, fun _ => ct_isEscape (RC_wT ht hj) hu hr hc (fun t2 ht2 => ?_)⟩
      · have := (vv_19 (by omega)).2.mp z; omega
      · have ih := ih (n + 1) t2 (by omega) (by omega) (ht.trans ht2)
        rw [sr1] at ih
        rw [b2i_ne0, vv_add1]
        refine ⟨fun h => ?_, fun h => ?_⟩
        · have h : gE p f S u r c n = true := by simpa using h
          rw [h, if_pos rfl] at ih
          simp only [stp] at ih
          refine ⟨fun h2 => ?_, fun h2 => en_X12_cellOf ?_⟩
          · rw [if_neg h2] at ih; exact ih
          · rw [if_pos (Decidable.of_not_not h2)] at ih; exact ih
        · rw [Decidable.of_not_not h] at ih; exact ih
  have in2 : ∀ r (q : Qs), r < S.2.2.1 → (∀ t, fr wT s t → at_X12_escapes_32 X (d + 6) K E t (zI u) w (sr2 R p f S 0 (gE p f S u) r C q).1 (sr2 R p f S 0 (gE p f S u) r C q).2.1 (zI (r + 1))) → ∀ e n (t : bi_St), e = C - n → n ≤ C → fr wT s t → at_X12_escapes_47 X (d + 6) K E t (zI u) w (sr2 R p f S 0 (gE p f S u) r n q).1 (sr2 R p f S 0 (gE p f S u) r n q).2.1 (zI r) (zI n) := by
    intro r q hr hk e
    induction e with
    | zero =>
      intro n t he hn ht
      have : n = C := by omega
      subst this
      refine go_X12_escapes_47 ⟨fun _ => by rw [zI_add1]; exact hk t ht, fun z => absurd ?_ z⟩
      rw [ht.g rfl, h28]; exact (zI_le (by omega) (by omega)).mpr (Nat.le_refl _)
    | succ e ih =>
      intro n t he hn2 ht
      refine go_X12_escapes_47 ⟨fun z => ?_, fun _ => ?_⟩
      · rw [ht.g rfl, h28, zI_le (by omega) (by omega)] at z; omega
      · have := in1 r n (sr2 R p f S 0 (gE p f S u) r n q) hr (by omega) (fun t2 ht2 => ih (n + 1) t2 (by omega) (by omega) ht2) 19 0 t (by omega) (by omega) ht
        rw [vv_0] at this
        exact this
  have in3 : ∀ e n (t : bi_St), e = S.2.2.1 - n → n ≤ S.2.2.1 → fr wT s t → at_X12_escapes_32 X (d + 6) K E t (zI u) w (sr3 R p f S 0 (gE p f S u) C n (0, -1, T)).1 (sr3 R p f S 0 (gE p f S u) C n (0, -1, T)).2.1 (zI n) := by
    intro e
    induction e with
    | zero =>
      intro n t he hn ht
      have : n = S.2.2.1 := by omega
      subst this
      have k := k t ht
      refine go_X12_escapes_32 ⟨rfl, fun _ => ⟨fun hw => ?_, fun hw => ?_⟩, fun z => absurd ?_ z⟩
      · rw [if_neg hw] at k; exact k
      · rw [if_pos (Decidable.of_not_not hw)] at k; exact k
      · rw [e7, (RC_wT ht hj).2.1.2.2.1]; exact (zI_le (by omega) (by omega)).mpr (Nat.le_refl _)
    | succ e ih =>
      intro n t he hn2 ht
      refine go_X12_escapes_32 ⟨rfl, fun z => ?_, fun _ => ?_⟩
      · rw [e7, (RC_wT ht hj).2.1.2.2.1, zI_le (by omega) (by omega)] at z; omega
      · exact in2 n _ (by omega) (fun t2 ht2 => ih (n + 1) t2 (by omega) (by omega) ht2) C 0 t (by omega) (by omega) ht
  exact in3 S.2.2.1 0 s (by omega) (by omega) fr.refl
theorem ct_meantL {X : bi_X} {d : Nat} {K : Int32 → bi_St → Prop} {E : Nat → bi_St → Prop} {s : bi_St} {C R p m : Nat} {f : Nat → Pol} {S : Sta} {W : Wt} {T : (Nat → Int32) × Int32} {w : Int32} (hj : RC s 0 C R p f S) (hw : WR s m W) (h28 : st_g s 77 28 = zI C)
    (k : ∀ t, fr wT s t → K (if w = 0 then (sr3 R p f S 1 (gM p f S m W) C S.2.2.1 (0, -1, T)).1 else (sr3 R p f S 1 (gM p f S m W) C S.2.2.1 (0, -1, T)).2.1) t) : at_X12_meant_42 X (d + 6) K E s w 0 (-1) 0 := by
  have hn := hj.2.1.2.1
  have hC := hj.1.1
  have e7 : ((7 : Int32)).toNatClampNeg = 7 := rfl
  have in1 : ∀ r c (q : Qs), r < S.2.2.1 → c < C → (∀ t, fr wT s t → at_X12_meant_57 X (d + 6) K E t w (sr1 R p f S 1 (gM p f S m W) r c 19 q).1 (sr1 R p f S 1 (gM p f S m W) r c 19 q).2.1 (zI r) (zI (c + 1))) → ∀ e n (t : bi_St), e = 19 - n → n ≤ 19 → fr wT s t → at_X12_meant_70 X (d + 6) K E t w (sr1 R p f S 1 (gM p f S m W) r c n q).1 (sr1 R p f S 1 (gM p f S m W) r c n q).2.1 (zI r) (zI c) (vv n) := by
    intro r c q hr hc hk e
    induction e with
    | zero =>
      intro n t he hn ht
      have : n = 19 := by omega
      subst this
      exact go_X12_meant_70 ⟨fun _ => by rw [zI_add1]; exact hk t ht, fun z => absurd ((vv_19 (by omega)).2.mpr rfl) z⟩
    | succ e ih =>
      intro n t he hn2 ht
      refine go_X12_meant_70 ⟨fun z => ?_, fun _ => ct_isGuess (RC_wT ht hj) (WR_wT ht hw) hr hc (fun t2 ht2 _ => ?_)⟩
      · have := (vv_19 (by omega)).2.mp z; omega
      · have ih := ih (n + 1) t2 (by omega) (by omega) (ht.trans ht2)
        rw [sr1] at ih
        rw [b2i_ne0, vv_add1]
        refine ⟨fun h => ?_, fun h => ?_⟩
        · have h : gM p f S m W r c n = true := by simpa using h
          rw [h, if_pos rfl] at ih
          simp only [stp] at ih
          refine ⟨fun h2 => ?_, fun h2 => en_X12_cellOf ?_⟩
          · rw [if_neg h2] at ih; exact ih
          · rw [if_pos (Decidable.of_not_not h2)] at ih; exact ih
        · rw [Decidable.of_not_not h] at ih; exact ih
  have in2 : ∀ r (q : Qs), r < S.2.2.1 → (∀ t, fr wT s t → at_X12_meant_42 X (d + 6) K E t w (sr2 R p f S 1 (gM p f S m W) r C q).1 (sr2 R p f S 1 (gM p f S m W) r C q).2.1 (zI (r + 1))) → ∀ e n (t : bi_St), e = C - n → n ≤ C → fr wT s t → at_X12_meant_57 X (d + 6) K E t w (sr2 R p f S 1 (gM p f S m W) r n q).1 (sr2 R p f S 1 (gM p f S m W) r n q).2.1 (zI r) (zI n) := by
    intro r q hr hk e
    induction e with
    | zero =>
      intro n t he hn ht
      have : n = C := by omega
      subst this
      refine go_X12_meant_57 ⟨fun _ => by rw [zI_add1]; exact hk t ht, fun z => absurd ?_ z⟩
      rw [ht.g rfl, h28]; exact (zI_le (by omega) (by omega)).mpr (Nat.le_refl _)
    | succ e ih =>
      intro n t he hn2 ht
      refine go_X12_meant_57 ⟨fun z => ?_, fun _ => ?_⟩
      · rw [ht.g rfl, h28, zI_le (by omega) (by omega)] at z; omega
      · have := in1 r n (sr2 R p f S 1 (gM p f S m W) r n q) hr (by omega) (fun t2 ht2 => ih (n + 1) t2 (by omega) (by omega) ht2) 19 0 t (by omega) (by omega) ht
        rw [vv_0] at this
        exact this
  have in3 : ∀ e n (t : bi_St), e = S.2.2.1 - n → n ≤ S.2.2.1 → fr wT s t → at_X12_meant_42 X (d + 6) K E t w (sr3 R p f S 1 (gM p f S m W) C n (0, -1, T)).1 (sr3 R p f S 1 (gM p f S m W) C n (0, -1, T)).2.1 (zI n) := by
    intro e
    induction e with
    | zero =>
      intro n t he hn ht
      have : n = S.2.2.1 := by omega
      subst this
      have k := k t ht
      refine go_X12_meant_42 ⟨rfl, fun _ => ⟨fun hw => ?_, fun hw => ?_⟩, fun z => absurd ?_ z⟩
      · rw [if_neg hw] at k; exact k
      · rw [if_pos (Decidable.of_not_not hw)] at k; exact k
      · rw [e7, (RC_wT ht hj).2.1.2.2.1]; exact (zI_le (by omega) (by omega)).mpr (Nat.le_refl _)
    | succ e ih =>
      intro n t he hn2 ht
      refine go_X12_meant_42 ⟨rfl, fun z => ?_, fun _ => ?_⟩
      · rw [e7, (RC_wT ht hj).2.1.2.2.1, zI_le (by omega) (by omega)] at z; omega
      · exact in2 n _ (by omega) (fun t2 ht2 => ih (n + 1) t2 (by omega) (by omega) ht2) C 0 t (by omega) (by omega) ht
  exact in3 S.2.2.1 0 s (by omega) (by omega) fr.refl
end LOOPS
