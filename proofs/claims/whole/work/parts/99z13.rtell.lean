/-! ===== the reference is told a text ===== -/
section RTELL
def roc (t : bi_St) (a : Nat) (x : Int32) (P : Option Lp) : Prop := match P with
  | none => x = -1
  | some P => ∃ n, x = zI n ∧ n < 1400 ∧ rc t a P n
def RFin (t : bi_St) (T : Tx) : Prop :=
  (st_g t 77 27 = zI (xR T) ∧ st_g t 77 28 = zI (xC T) ∧ st_g t 77 29 = zI (xp T) ∧ st_g t 77 30 = zI (xv T)) ∧
  (∀ i, i < xp T → st_g t 83 (7 * i) = b2i (xf T i).1 ∧ st_g t 83 (7 * i + 1) = (xf T i).2.1 ∧ st_g t 83 (7 * i + 2) = zI (xf T i).2.2.1 ∧ roc t 87 (st_g t 83 (7 * i + 3)) (xf T i).2.2.2.1 ∧ roc t 87 (st_g t 83 (7 * i + 4)) (xf T i).2.2.2.2 ∧ st_g t 83 (7 * i + 5) = plI (xf T i).2.2.2.1 ∧ st_g t 83 (7 * i + 6) = plI (xf T i).2.2.2.2) ∧
  (∀ w, w < xv T → st_g t 85 (6 * w) = (xg T w).1 ∧ st_g t 85 (6 * w + 1) = b2i (xg T w).2.1 ∧ st_g t 85 (6 * w + 2) = (xg T w).2.2.1 ∧ roc t 87 (st_g t 85 (6 * w + 3)) (some (xg T w).2.2.2.2) ∧ st_g t 85 (6 * w + 4) = zI (xg T w).2.2.2.2.length ∧ st_g t 85 (6 * w + 5) = b2i (xg T w).2.2.2.1) ∧
  (∀ r, r < 6 → st_g t 90 r = xG T r) ∧ (st_g t 90 6 = on0 (xp T) ∧ st_g t 90 7 = zI (xn T)) ∧ (∀ r c, r < xn T → c < xC T → st_g t 90 (8 + 4 * r + c) = xc T r c) ∧
  (st_g t 77 40 = 0 ∧ st_g t 77 62 = 0 ∧ st_g t 77 67 = 0 ∧ st_g t 77 48 = 0)
def wTf (c k : Nat) : Prop := (c = 77 ∧ k ≤ 26) ∨ (80 ≤ c ∧ c ≤ 82) ∨ c = 84 ∨ c = 86 ∨ c = 89 ∨ (c = 79 ∧ k = 0)
def wTs (c k : Nat) : Prop := (c = 77 ∧ (k ≤ 30 ∨ k = 40 ∨ k = 48 ∨ k = 62 ∨ k = 67)) ∨ (80 ≤ c ∧ c ≤ 87) ∨ (c = 89 ∨ (c = 90 ∧ k < 72))
theorem wLn_wTf (c k : Nat) (h : wLn c k) : wTf c k := by unfold wLn at h; unfold wTf; omega
theorem wLg_wTs (c k : Nat) (h : wLg c k) : wTs c k := by unfold wLg at h; unfold wTs; omega
theorem roc_of {u t : bi_St} {lo : Nat} {x : Int32} {P : Option Lp} (hlo : lo ≤ 1400) (h : ∀ k, k < 1400 → st_g t 87 k = st_g u 80 k) (hr : ro u lo x P) : roc t 87 x P := by
  cases P with
  | none => exact hr
  | some P =>
    obtain ⟨n, h1, h2, h3⟩ := hr
    exact ⟨n, h1, by omega, rc_low (lo := lo) (fun k hk => h k (by omega)) P n h2 h3⟩
/-- a text is taken over -/
theorem ct_taken {X : bi_X} {d : Nat} {K : Int32 → bi_St → Prop} {E : Nat → bi_St → Prop} {s u : bi_St} {B : Nat → Nat} {N q lo : Nat} {T : Tx} (fu : fh wTs s u) (hX : RXt u B N 0 T q lo) (u0 : st_g u 77 0 = 0) (u2 : st_g u 77 2 = 0) (u4 : st_g u 77 4 = -1)
    (kT : ∀ t, fh wTs s t → st_g t 77 0 = 0 → st_g t 77 2 = 0 → st_g t 77 4 = -1 → RFin t T → K 0 t) : at_X12_tell_136 X (d + 1) K E u := by
  obtain ⟨⟨hB, hT, h3⟩, ⟨r14, r15, r16, r17, r18, r19⟩, ⟨c2, c3, c4, c5, c6, hl⟩, hG, hcl, hP, hV⟩ := hX
  have hN := hB.1
  have hqN := hT.1
  refine go_X12_tell_136 (ct_isGoodY h3 ⟨fun _ => ?_, fun z => absurd (by decide) z⟩)
  have e1 : st_g (st_p u 77 28 (st_g u 77 14)) 77 15 = zI (xR T) := by rw [g_p_k (by omega)]; exact r15
  rw [e1, r14]
  have e2 : st_g (st_p (st_p u 77 28 (zI (xC T))) 77 27 (zI (xR T))) 77 17 = zI (xp T) := by rw [g_p_k (by omega), g_p_k (by omega)]; exact r17
  rw [e2]
  have e3 : st_g (st_p (st_p (st_p u 77 28 (zI (xC T))) 77 27 (zI (xR T))) 77 29 (zI (xp T))) 77 18 = zI (xv T) := by rw [g_p_k (by omega), g_p_k (by omega), g_p_k (by omega)]; exact r18
  rw [e3]
  have y : ∀ k, 27 ≤ k → k ≤ 30 → wTs 77 k := fun k h1 h2 => Or.inl ⟨rfl, by omega⟩
  have f1 : fh wTs s (st_p (st_p (st_p (st_p u 77 28 (zI (xC T))) 77 27 (zI (xR T))) 77 29 (zI (xp T))) 77 30 (zI (xv T))) := (((fu.p (y 28 (by omega) (by omega))).p (y 27 (by omega) (by omega))).p (y 29 (by omega) (by omega))).p (y 30 (by omega) (by omega))
  have g1 : ∀ c k, (c ≠ 77 ∨ k < 27 ∨ 30 < k) → st_g (st_p (st_p (st_p (st_p u 77 28 (zI (xC T))) 77 27 (zI (xR T))) 77 29 (zI (xp T))) 77 30 (zI (xv T))) c k = st_g u c k := fun c k hh => by rw [g_p, if_neg (by omega), g_p, if_neg (by omega), g_p, if_neg (by omega), g_p, if_neg (by omega)]
  have z28 : st_g (st_p (st_p (st_p (st_p u 77 28 (zI (xC T))) 77 27 (zI (xR T))) 77 29 (zI (xp T))) 77 30 (zI (xv T))) 77 28 = zI (xC T) := by rw [g_p_k (by omega), g_p_k (by omega), g_p_k (by omega), g_p_eq]
  have z27 : st_g (st_p (st_p (st_p (st_p u 77 28 (zI (xC T))) 77 27 (zI (xR T))) 77 29 (zI (xp T))) 77 30 (zI (xv T))) 77 27 = zI (xR T) := by rw [g_p_k (by omega), g_p_k (by omega), g_p_eq]
  have z29 : st_g (st_p (st_p (st_p (st_p u 77 28 (zI (xC T))) 77 27 (zI (xR T))) 77 29 (zI (xp T))) 77 30 (zI (xv T))) 77 29 = zI (xp T) := by rw [g_p_k (by omega), g_p_eq]
  have z30 : st_g (st_p (st_p (st_p (st_p u 77 28 (zI (xC T))) 77 27 (zI (xR T))) 77 29 (zI (xp T))) 77 30 (zI (xv T))) 77 30 = zI (xv T) := g_p_eq _ _ _ _
  generalize st_p (st_p (st_p (st_p u 77 28 (zI (xC T))) 77 27 (zI (xR T))) 77 29 (zI (xp T))) 77 30 (zI (xv T)) = v1 at f1 g1 z28 z27 z29 z30
  refine ct_copies (n := 56) (fun _ => rfl) (fun _ => rfl) rfl rfl (by omega) (by omega) (fun v2 f2 c2' => ?_)
  refine ct_copies (n := 18) (fun _ => rfl) (fun _ => rfl) rfl rfl (by omega) (by omega) (fun v3 f3 c3' => ?_)
  refine ct_copies (n := 1400) (fun _ => rfl) (fun _ => rfl) rfl rfl (by omega) (by omega) (fun v4 f4 c4' => ?_)
  have f14 : fh wTs s v4 := ((f1.trans (f2.mono (fun c k hh => by unfold wTs; omega))).trans (f3.mono (fun c k hh => by unfold wTs; omega))).trans (f4.mono (fun c k hh => by unfold wTs; omega))
  have g4 : ∀ c k, c ≠ 83 → c ≠ 85 → c ≠ 87 → st_g v4 c k = st_g v1 c k := fun c k h1 h2 h3 => by rw [f4.g h3, f3.g h2, f2.g h1]
  have v83 : ∀ k, k < 56 → st_g v4 83 k = st_g u 84 k := fun k hk => by rw [f4.g (by omega), f3.g (by omega), c2' k hk, g1 _ _ (by omega)]
  have v85 : ∀ k, k < 18 → st_g v4 85 k = st_g u 86 k := fun k hk => by rw [f4.g (by omega), c3' k hk, f2.g (by omega), g1 _ _ (by omega)]
  have v87 : ∀ k, k < 1400 → st_g v4 87 k = st_g u 80 k := fun k hk => by rw [c4' k hk, f3.g (by omega), f2.g (by omega), g1 _ _ (by omega)]
  have v89 : ∀ k, st_g v4 89 k = st_g u 89 k := fun k => by rw [g4 _ _ (by omega) (by omega) (by omega), g1 _ _ (by omega)]
  have loop : ∀ m i w, m + i = 72 → fh (fun c k => c = 90 ∧ k < 72) v4 w → (∀ k, k < i → st_g w 90 k = st_g v4 89 k) → at_X12_tell_228 X (d + 1) K E w (zI i) := by
    intro m
    induction m with
    | zero =>
      intro i w h1 fw wk
      have e72 : ((72 : Int32) ≤ zI i) ↔ 72 ≤ i := zI_le (a := 72) (by omega) (by omega)
      refine go_X12_tell_228 ?_
      have w29 : st_g w 77 29 = zI (xp T) := by rw [fw.g (by omega), g4 _ _ (by omega) (by omega) (by omega)]; exact z29
      have w16 : ∀ x, st_g (st_p w 90 ((6 : Int32)).toNatClampNeg x) 77 16 = zI (xn T) := fun x => by rw [g_p_a (by omega), fw.g (by omega), g4 _ _ (by omega) (by omega) (by omega), g1 _ _ (by omega)]; exact r16
      rw [e72, w29, w16]
      refine ⟨fun _ => ⟨rfl, rfl, ?_⟩, fun z => by omega⟩
      rw [show ((6 : Int32)).toNatClampNeg = 6 from rfl, show ((7 : Int32)).toNatClampNeg = 7 from rfl]
      have ft : fh wTs s (st_p (st_p (st_p (st_p (st_p (st_p w 90 6 (((1 : Int32) <<< (zI (xp T) &&& 31)) - 1)) 90 7 (zI (xn T))) 77 40 0) 77 62 0) 77 67 0) 77 48 0) := ((((((f14.trans (fw.mono (fun c k hh => by unfold wTs; omega))).p (by unfold wTs; omega)).p (by unfold wTs; omega)).p (by unfold wTs; omega)).p (by unfold wTs; omega)).p (by unfold wTs; omega)).p (by unfold wTs; omega)
      have gt : ∀ c k, (c ≠ 90 ∨ (k ≠ 6 ∧ k ≠ 7)) → (c ≠ 77 ∨ (k ≠ 40 ∧ k ≠ 62 ∧ k ≠ 67 ∧ k ≠ 48)) → st_g (st_p (st_p (st_p (st_p (st_p (st_p w 90 6 (((1 : Int32) <<< (zI (xp T) &&& 31)) - 1)) 90 7 (zI (xn T))) 77 40 0) 77 62 0) 77 67 0) 77 48 0) c k = st_g w c k := fun c k h1 h2 => by rw [g_p, if_neg (by omega), g_p, if_neg (by omega), g_p, if_neg (by omega), g_p, if_neg (by omega), g_p, if_neg (by omega), g_p, if_neg (by omega)]
      have y6 : st_g (st_p (st_p (st_p (st_p (st_p (st_p w 90 6 (((1 : Int32) <<< (zI (xp T) &&& 31)) - 1)) 90 7 (zI (xn T))) 77 40 0) 77 62 0) 77 67 0) 77 48 0) 90 6 = on0 (xp T) := by rw [g_p_a (by omega), g_p_a (by omega), g_p_a (by omega), g_p_a (by omega), g_p_k (by omega), g_p_eq]; rfl
      have y7 : st_g (st_p (st_p (st_p (st_p (st_p (st_p w 90 6 (((1 : Int32) <<< (zI (xp T) &&& 31)) - 1)) 90 7 (zI (xn T))) 77 40 0) 77 62 0) 77 67 0) 77 48 0) 90 7 = zI (xn T) := by rw [g_p_a (by omega), g_p_a (by omega), g_p_a (by omega), g_p_a (by omega), g_p_eq]
      have y40 : st_g (st_p (st_p (st_p (st_p (st_p (st_p w 90 6 (((1 : Int32) <<< (zI (xp T) &&& 31)) - 1)) 90 7 (zI (xn T))) 77 40 0) 77 62 0) 77 67 0) 77 48 0) 77 40 = 0 := by rw [g_p_k (by omega), g_p_k (by omega), g_p_k (by omega), g_p_eq]
      have y62 : st_g (st_p (st_p (st_p (st_p (st_p (st_p w 90 6 (((1 : Int32) <<< (zI (xp T) &&& 31)) - 1)) 90 7 (zI (xn T))) 77 40 0) 77 62 0) 77 67 0) 77 48 0) 77 62 = 0 := by rw [g_p_k (by omega), g_p_k (by omega), g_p_eq]
      have y67 : st_g (st_p (st_p (st_p (st_p (st_p (st_p w 90 6 (((1 : Int32) <<< (zI (xp T) &&& 31)) - 1)) 90 7 (zI (xn T))) 77 40 0) 77 62 0) 77 67 0) 77 48 0) 77 67 = 0 := by rw [g_p_k (by omega), g_p_eq]
      have y48 : st_g (st_p (st_p (st_p (st_p (st_p (st_p w 90 6 (((1 : Int32) <<< (zI (xp T) &&& 31)) - 1)) 90 7 (zI (xn T))) 77 40 0) 77 62 0) 77 67 0) 77 48 0) 77 48 = 0 := g_p_eq _ _ _ _
      generalize st_p (st_p (st_p (st_p (st_p (st_p w 90 6 (((1 : Int32) <<< (zI (xp T) &&& 31)) - 1)) 90 7 (zI (xn T))) 77 40 0) 77 62 0) 77 67 0) 77 48 0 = t at ft gt y6 y7 y40 y62 y67 y48
      have gv : ∀ c k, c ≠ 90 → (c ≠ 77 ∨ (k ≠ 40 ∧ k ≠ 62 ∧ k ≠ 67 ∧ k ≠ 48)) → st_g t c k = st_g v4 c k := fun c k h1 h2 => by rw [gt _ _ (by omega) h2, fw.g (by omega)]
      have gu : ∀ k, k < 27 → st_g t 77 k = st_g u 77 k := fun k hk => by rw [gv _ _ (by omega) (by omega), g4 _ _ (by omega) (by omega) (by omega), g1 _ _ (by omega)]
      have t83 : ∀ k, k < 56 → st_g t 83 k = st_g u 84 k := fun k hk => by rw [gv _ _ (by omega) (by omega), v83 k hk]
      have t85 : ∀ k, k < 18 → st_g t 85 k = st_g u 86 k := fun k hk => by rw [gv _ _ (by omega) (by omega), v85 k hk]
      have t87 : ∀ k, k < 1400 → st_g t 87 k = st_g u 80 k := fun k hk => by rw [gv _ _ (by omega) (by omega), v87 k hk]
      have t90 : ∀ k, k < 72 → k ≠ 6 → k ≠ 7 → st_g t 90 k = st_g u 89 k := fun k h1 h2 h3 => by rw [gt _ _ (by omega) (by omega), wk k (by omega), v89]
      refine kT t ft (by rw [gu _ (by omega)]; exact u0) (by rw [gu _ (by omega)]; exact u2) (by rw [gu _ (by omega)]; exact u4) ⟨⟨?_, ?_, ?_, ?_⟩, fun i hi => ?_, fun i hi => ?_, fun r hr => by rw [t90 _ (by omega) (by omega) (by omega)]; exact hG r hr, ⟨y6, y7⟩, fun r c h1 h2 => by rw [t90 _ (by omega) (by omega) (by omega)]; exact hcl r c h1 h2, ⟨y40, y62, y67, y48⟩⟩
      · rw [gv _ _ (by omega) (by omega), g4 _ _ (by omega) (by omega) (by omega)]; exact z27
      · rw [gv _ _ (by omega) (by omega), g4 _ _ (by omega) (by omega) (by omega)]; exact z28
      · rw [gv _ _ (by omega) (by omega), g4 _ _ (by omega) (by omega) (by omega)]; exact z29
      · rw [gv _ _ (by omega) (by omega), g4 _ _ (by omega) (by omega) (by omega)]; exact z30
      · obtain ⟨a1, a2, a3, a4, a5, a6, a7⟩ := hP i hi
        exact ⟨by rw [t83 _ (by omega)]; exact a1, by rw [t83 _ (by omega)]; exact a2, by rw [t83 _ (by omega)]; exact a3, by rw [t83 _ (by omega)]; exact roc_of (by omega) t87 a4, by rw [t83 _ (by omega)]; exact roc_of (by omega) t87 a5, by rw [t83 _ (by omega)]; exact a6, by rw [t83 _ (by omega)]; exact a7⟩
      · obtain ⟨a1, a2, a3, a4, a5, a6⟩ := hV i hi
        exact ⟨by rw [t85 _ (by omega)]; exact a1, by rw [t85 _ (by omega)]; exact a2, by rw [t85 _ (by omega)]; exact a3, by rw [t85 _ (by omega)]; exact roc_of (by omega) t87 a4, by rw [t85 _ (by omega)]; exact a5, by rw [t85 _ (by omega)]; exact a6⟩
    | succ m ih =>
      intro i w h1 fw wk
      have e72 : ((72 : Int32) ≤ zI i) ↔ 72 ≤ i := zI_le (a := 72) (by omega) (by omega)
      refine go_X12_tell_228 ?_
      rw [e72, zI_nat (by omega), zI_add1]
      refine ⟨fun z => by omega, fun _ => ⟨in_zI (by omega) (by omega), in_zI (by omega) (by omega), ih (i + 1) _ (by omega) (fw.p ⟨rfl, by omega⟩) (fun k hk => ?_)⟩⟩
      rw [g_p]
      by_cases hki : k = i
      · rw [if_pos ⟨rfl, hki⟩, fw.g (by omega), hki]
      · rw [if_neg (fun z => hki z.2)]; exact wk k (by omega)
  exact loop 72 0 v4 rfl fh.refl (fun k hk => by omega)
end RTELL
