/-! ===== calls that write: insert, grant, turn ===== -/
section WR2
section V
variable {X : bi_X} {d : Nat} {s : bi_St} {M : Ms6} {b b' a a' : Nat} {x x1 x2 x3 x4 y z w : Int32} {l : Nat → Int32}
theorem cC_insert (ho : okM M) (hC : RCl s b b' a a' M) : CtC X (d + 5) 134 [.ref 0, .int x, .int x1, .int x2, .int x3, .int x4] s M (oInsert M x (l4 x1 x2 x3 x4)) := CtC_w ho hC (fun K E kT kR kW kF => by
  have h16 : mn M ≤ 16 := okN hC
  have hR6 : mR M ≤ 6 := ho.1.2.1
  have hC4 : mC M ≤ 4 := ho.1.1.2
  refine en_X11_insert (ct_needRole hC (fun hx => ?_) (fun hx => kF 100 1 s (ifF hx) fsc.refl))
  obtain ⟨u, hu, e, enx⟩ := nIn_y (n := mR M) (by omega) hx
  rw [hC.1.1.1, hC.1.1.2.2.1]
  refine ⟨hC.1.2.1.1, isS_31 hC.1.2.2.1, ct_sitJ ho hC (fun t ft hJ => ⟨rfl, rfl, rfl, rfl, ?_⟩)⟩
  show cI X _ 116 _ (st_p (st_p (st_p (st_p t 59 0 x1) 59 1 x2) 59 2 x3) 59 3 x4) _ _
  have h4 : fr wA t (st_p (st_p (st_p (st_p t 59 0 x1) 59 1 x2) 59 2 x3) 59 3 x4) := ((((fr.refl).p rfl).p rfl).p rfl).p rfl
  have hl : ∀ c, c < mC M → st_g (st_p (st_p (st_p (st_p t 59 0 x1) 59 1 x2) 59 2 x3) 59 3 x4) 59 c = l4 x1 x2 x3 x4 c := fun c hc => by
    have : c = 0 ∨ c = 1 ∨ c = 2 ∨ c = 3 := by omega
    rcases this with rfl | rfl | rfl | rfl <;> rfl
  generalize st_p (st_p (st_p (st_p t 59 0 x1) 59 1 x2) 59 2 x3) 59 3 x4 = t2 at h4 hl
  have f2 := ft.f h4 wA_sc
  have hJ2 := JC_fr h4 hJ
  have hTt := RCl_sc ho hC f2
  rw [e]
  refine ct_putLine hJ2 (HA_sc hC f2) hTt.2.2.2.1.2.2.2.1 (by omega) hl (fun v hv h => ⟨fun n => absurd rfl n, fun _ => ⟨rfl, rfl, kR _ v ?_ (f2.f hv wA_sc)⟩⟩) (fun v hv h1 h2 h3 _ hA => ⟨fun _ => ?_, fun n => absurd (by decide) n⟩)
  · have hn : okIn M u (l4 x1 x2 x3 x4) = false := by
      unfold okIn
      rcases h with h | h | h
      · rw [decide_eq_false (by have h : mn M = 16 := h; omega)]; rfl
      · rw [h, Bool.false_and, Bool.and_false]
      · rw [h, Bool.and_false, Bool.and_false]
    unfold oInsert; rw [ifT hx, enx, ifF hn]
  · have hn : okIn M u (l4 x1 x2 x3 x4) = true := by
      unfold okIn
      rw [decide_eq_true (show mn M < 16 from h1), h2, h3]; rfl
    have fw := f2.w hC.1.2.2.1 hv
    rw [fw.2.2.1 2 (by omega) (by omega), hC.1.1.2.2.1, hA.2.2.2.1.2.2.1]
    exact ⟨isS_31 hC.1.2.2.1, kW _ v (insS (mSt M) (l4 x1 x2 x3 x4)) (kpH M) (by unfold oInsert; rw [ifT hx, enx, ifT hn]; rfl) fw (by rw [kpH_len (len40 hC)]; exact hA)⟩)
theorem ct_nums {K : Int32 → bi_St → Prop} {E : Nat → bi_St → Prop} {C : Nat} (h28 : st_g s 77 28 = zI C) (hC1 : 1 ≤ C) (hC4 : C ≤ 4) (kY : allB (fun c => nmb (l4 x1 x2 x3 x4 c)) C = true → at_X12_insert_73 X (d + 2) K E s x x1 x2 x3 x4) (kN : allB (fun c => nmb (l4 x1 x2 x3 x4 c)) C = false → at_X12_insert_77 X (d + 2) K E s x x1 x2 x3 x4) :
    cI X (d + 1) 240 [.ref 77, .int x1] s (fun (r2 : Int32) (s2 : bi_St) => ((r2 = 0) → at_X12_insert_77 X (d + 2) K E s2 x x1 x2 x3 x4) ∧ (¬ (r2 = 0) → (((st_g s2 77 28) < (2 : Int32)) → at_X12_insert_39 X (d + 2) K E s2 x x1 x2 x3 x4) ∧ (¬ ((st_g s2 77 28) < (2 : Int32)) → cI X (d + 1) 240 [.ref 77, .int x2] s2 (fun (r3 : Int32) (s3 : bi_St) => ((r3 = 0) → at_X12_insert_77 X (d + 2) K E s3 x x1 x2 x3 x4) ∧ (¬ (r3 = 0) → at_X12_insert_39 X (d + 2) K E s3 x x1 x2 x3 x4)) (fun _ _ => False)))) (fun _ _ => False) := by
  have no : ∀ i, i < C → nmb (l4 x1 x2 x3 x4 i) = false → at_X12_insert_77 X (d + 2) K E s x x1 x2 x3 x4 := fun i hi h => kN (by
    cases hal : allB (fun c => nmb (l4 x1 x2 x3 x4 c)) C
    · rfl
    · have := allB_iff.mp hal i hi
      exact absurd (this.symm.trans h) (by decide))
  have at73 : (∀ i, i < C → nmb (l4 x1 x2 x3 x4 i) = true) → at_X12_insert_73 X (d + 2) K E s x x1 x2 x3 x4 := fun h => kY (allB_iff.mpr h)
  have at56 : (∀ i, i < C → i < 3 → nmb (l4 x1 x2 x3 x4 i) = true) → at_X12_insert_56 X (d + 2) K E s x x1 x2 x3 x4 := fun h => by
    refine go_X12_insert_56 ?_
    rw [h28, show (4 : Int32) = zI 4 from rfl, zI_lt (by omega) (by omega)]
    refine ⟨fun h4 => at73 (fun i hi => h i hi (by omega)), fun h4 => ct_isNumR ?_⟩
    rw [b2i_ne0]
    refine ⟨fun hz => no 3 (by omega) hz, fun hz => at73 (fun i hi => ?_)⟩
    by_cases e : i = 3
    · rw [e]; exact (Bool.not_eq_false _).mp hz
    · exact h i hi (by omega)
  have at39 : (∀ i, i < C → i < 2 → nmb (l4 x1 x2 x3 x4 i) = true) → at_X12_insert_39 X (d + 2) K E s x x1 x2 x3 x4 := fun h => by
    refine go_X12_insert_39 ?_
    rw [h28, show (3 : Int32) = zI 3 from rfl, zI_lt (by omega) (by omega)]
    refine ⟨fun h4 => at56 (fun i hi h3 => h i hi (by omega)), fun h4 => ct_isNumR ?_⟩
    rw [b2i_ne0]
    refine ⟨fun hz => no 2 (by omega) hz, fun hz => at56 (fun i hi _ => ?_)⟩
    by_cases e : i = 2
    · rw [e]; exact (Bool.not_eq_false _).mp hz
    · exact h i hi (by omega)
  refine ct_isNumR ?_
  rw [b2i_ne0, h28, show (2 : Int32) = zI 2 from rfl, zI_lt (by omega) (by omega)]
  refine ⟨fun hz => no 0 (by omega) hz, fun hz0 => ⟨fun h2 => at39 (fun i hi _ => ?_), fun h2 => ct_isNumR ?_⟩⟩
  · rw [show i = 0 by omega]; exact (Bool.not_eq_false _).mp hz0
  · rw [b2i_ne0]
    refine ⟨fun hz => no 1 (by omega) hz, fun hz => at39 (fun i hi _ => ?_)⟩
    by_cases e : i = 1
    · rw [e]; exact (Bool.not_eq_false _).mp hz
    · rw [show i = 0 by omega]; exact (Bool.not_eq_false _).mp hz0
/-- the tried state takes the place of the kept -/
theorem ct_ins118 {K : Int32 → bi_St → Prop} {E : Nat → bi_St → Prop} (k : ∀ t, fr (fun c k => Nat.beq c 90 && Nat.blt k 72) s t → (∀ q, q < 72 → st_g t 90 q = st_g s 90 (72 + q)) → K (st_g t 90 7) t) : at_X12_insert_118 X (d + 1) K E s 0 := by
  have loop : ∀ n i t, n + i = 72 → fr (fun c k => Nat.beq c 90 && Nat.blt k 72) s t → (∀ q, q < i → st_g t 90 q = st_g s 90 (72 + q)) → at_X12_insert_118 X (d + 1) K E t (zI i) := by
    intro n
    induction n with
    | zero =>
      intro i t h1 ht hq
      refine go_X12_insert_118 ?_
      rw [show (72 : Int32) = zI 72 from rfl, zI_le (by omega) (by omega)]
      exact ⟨fun _ => ⟨rfl, k t ht (fun q h => hq q (by omega))⟩, fun h => by omega⟩
    | succ n ih =>
      intro i t h1 ht hq
      refine go_X12_insert_118 ?_
      rw [show (72 : Int32) = zI 72 from rfl, zI_le (by omega) (by omega), zI_add, zI_nat (by omega), zI_nat (by omega), zI_add1]
      refine ⟨fun h => by omega, fun _ => ⟨in_zI (by omega) (by omega), in_zI (by omega) (by omega), ih (i + 1) _ (by omega) (ht.p (by
        rw [show Nat.beq 90 90 = true from rfl, Bool.true_and]
        exact Nat.blt_eq.mpr (by omega))) (fun q h => ?_)⟩⟩
      rw [g_p]
      by_cases e : q = i
      · rw [if_pos ⟨rfl, e⟩, e, ht.g (by
          rw [show Nat.beq 90 90 = true from rfl, Bool.true_and]
          cases hv : Nat.blt (72 + i) 72
          · rfl
          · have := Nat.blt_eq.mp hv; omega)]
      · rw [if_neg (fun z => e z.2)]; exact hq q (by omega)
  exact loop 72 0 s (by omega) fr.refl (fun q h => by omega)
theorem w90_sx {g : Nat → Bool} : ∀ c q, (c < 77 ∨ impR c q ∨ (c = 77 ∧ q = 62) ∨ c = 106 ∨ c = 79 ∨ c = 112) → (Nat.beq c 90 && g q) = false := fun c q h => by rw [beq_ne (show c ≠ 90 by unfold impR at h; omega)]; rfl
theorem cR_insert (ho : okM M) (hR : RRf s M) (hm : (mH M).length ≤ 40) : CtR X (d + 5) 245 [.ref 77, .int x, .int x1, .int x2, .int x3, .int x4] s M (oInsert M x (l4 x1 x2 x3 x4)) := CtR_w ho hR (fun K kT kR kW kF => by
  have h16 : mn M ≤ 16 := okNr hR
  have hR6 : mR M ≤ 6 := ho.1.2.1
  have hC4 : mC M ≤ 4 := ho.1.1.2
  have f0 : fsr s (st_p s 77 0 0) := fsr_0
  have h0 : st_g (st_p s 77 0 0) 77 0 = 0 := g_p_eq _ _ _ _
  have hT := RRf_sr ho hR f0
  refine en_X12_insert ?_
  generalize st_p s 77 0 (0 : Int32) = t at f0 h0 hT
  refine ct_isRole h0 hT.2.1.2.2.2.2 (fun hx => ⟨fun _ => ?_, fun z => absurd (by decide) z⟩) (fun hx => ⟨fun z => absurd rfl z, fun _ => kF 100 1 0 _ (ifF hx) (f0.p (by omega) (by unfold impR impS; omega)) (g_p_eq _ _ _ _)⟩)
  obtain ⟨u, hu, e, enx⟩ := nIn_y (n := mR M) (by omega) hx
  have no : okIn M u (l4 x1 x2 x3 x4) = false → ∀ v, fsr s v → st_g v 77 0 = 0 → at_X12_insert_105 X (d + 5) K (fun _ _ => False) v := fun hn v fv v0 => go_X12_insert_105 (ct_refuses (kR _ v (by unfold oInsert; rw [ifT hx, enx, ifF hn]) fv v0))
  have w72 : ∀ c q, (c < 77 ∨ impR c q ∨ impS c q ∨ c = 79 ∨ c = 112) → (Nat.beq c 90 && Nat.ble 72 q) = false := fun c q h => by
    cases hv : (Nat.beq c 90 && Nat.ble 72 q)
    · rfl
    · simp only [Bool.and_eq_true, Nat.beq_eq, Nat.ble_eq] at hv; unfold impR impS at h; omega
  refine ct_nums hT.2.1.2.2.2.1 ho.1.1.1 hC4 (fun hal => go_X12_insert_73 (ct_tries (fun v hv h72 => ⟨fun z => absurd z (by decide), fun _ => ?_⟩))) (fun hal => go_X12_insert_77 (ct_tries (fun v hv _ => ⟨fun _ => no ?_ v (f0.f hv w72) (fr0 hv rfl h0), fun z => absurd rfl z⟩)))
  · have fv := f0.f hv w72
    have v0 := fr0 hv rfl h0
    have hTv := RRf_sr ho hR fv
    have hc0 := RC_of ho hTv
    have hS72 : SR v 72 (mC M) (mSt M) := (SN_SR (by omega)).mp (SN_cp (s := t) (w := 90) (b := 0) hC4 (fun q hq => by rw [h72 q hq, Nat.zero_add]) ((SN_SR (by omega)).mpr hT.2.2.1.1))
    have hc : RC v 72 (mC M) (mR M) (mp M) (mf M) (mSt M) := ⟨hc0.1, hS72, hc0.2.2.1, hc0.2.2.2⟩
    rw [e]
    refine ct_inserts (b0 := 72) hc hTv.2.1.2.2.2.1 ho.1.1.1 (by omega) (fun q hq h => ⟨fun z => absurd rfl z, fun _ => no ?_ q (fv.f hq wF_sr) (fr0 hq rfl v0)⟩) (fun q hq h1 h2 hS => ⟨fun _ => ?_, fun z => absurd (by decide) z⟩)
    · unfold okIn
      rcases h with h | h
      · rw [decide_eq_false (by have h : mn M = 16 := h; omega)]; rfl
      · rw [h, Bool.and_false, Bool.and_false]
    · have wX72 : ∀ c k, (c < 77 ∨ impR c k ∨ impS c k ∨ c = 79 ∨ c = 112) → wX 72 c k = false := fun c k h => by
        cases hv : wX 72 c k
        · rfl
        · unfold wX at hv
          rw [wF_sr c k h] at hv
          simp only [Bool.false_or, Bool.and_eq_true, Nat.beq_eq, Nat.ble_eq] at hv; unfold impR impS at h; omega
      have hn : okIn M u (l4 x1 x2 x3 x4) = true := by
        unfold okIn
        rw [decide_eq_true (show mn M < 16 from h1), h2, hal]; rfl
      refine ct_keepsM ho hR (fv.f hq wX72) (fr0 hq rfl v0) hm (fun q2 hq2 fq2 q20 _ h40 hA => ct_ins118 (fun q3 hq3 hcp => ?_))
      have hS2 : SR q2 72 (mC M) (insS (mSt M) (l4 x1 x2 x3 x4)) := SR_fr (fun k _ _ => hq2.g rfl) hC4 hS
      have hS3 : SR q3 0 (mC M) (insS (mSt M) (l4 x1 x2 x3 x4)) := (SN_SR (by omega)).mp (SN_cp (s := q2) (w := 90) (b := 72) hC4 (fun k hk => by rw [Nat.zero_add]; exact hcp k hk) ((SN_SR (by omega)).mpr hS2))
      rw [show st_g q3 90 7 = zI (mn M + 1) from hS3.2.2.1]
      exact kW _ q3 (insS (mSt M) (l4 x1 x2 x3 x4)) (kpH M) (by unfold oInsert; rw [ifT hx, enx, ifT hn]; rfl) (fq2.f hq3 w90_sx) (fr0 hq3 rfl q20) hS3 (by rw [hq3.g rfl]; exact h40) (AR_cp hC4 _ _ (fun z _ => hq3.g rfl) hA)
  · unfold okIn; rw [hal, Bool.false_and, Bool.and_false])
def gno (M : Ms6) (i j : Nat) (w : Bool) : Bool := decide (i = j) || ((tb ((mSt M).1 i) j == w) || (w && tb (clo (mSt M).1 (s1 j)) i))
def oGrant (M : Ms6) (x y : Int32) (w : Bool) : Ou := if nIn x (mR M) = true then (if nIn y (mR M) = true then (if gno M (nX x) (nX y) w = true then .inr (0, rfM M) else .inr (1, doM M (gifS (mSt M) (nX x) (nX y)))) else .inl (100, 1)) else .inl (100, 1)
def oTurn (M : Ms6) (x : Int32) (w : Bool) : Ou := if nIn x (mp M) = true then (if (tb (mSt M).2.1 (nX x) == w) = true then .inr (0, rfM M) else .inr (1, doM M (sw (mSt M) ((mSt M).2.1 ^^^ s1 (nX x))))) else .inl (100, 1)
theorem cC_turn {w : Bool} (ho : okM M) (hC : RCl s b b' a a' M) : CtC X (d + 5) 138 [.ref 0, .int x, .int (b2i w)] s M (oTurn M x w) := CtC_w ho hC (fun K E kT kR kW kF => by
  have hp8 : mp M ≤ 8 := ho.1.2.2.1
  refine en_X11_turn (ct_needPolicy hC (fun hx => ?_) (fun hx => kF 100 1 s (ifF hx) fsc.refl))
  obtain ⟨i, hi, e, enx⟩ := nIn_y (n := mp M) (by omega) hx
  rw [hC.1.1.2.2.1, hC.2.2.2.2.1.1.2.2.2.1.2.2.2.1, e]
  have hS := isS_31 hC.1.2.2.1
  have hov : ∀ o', (if (tb (mSt M).2.1 i == w) = true then (Sum.inr (0, rfM M) : Ou) else .inr (1, doM M (sw (mSt M) ((mSt M).2.1 ^^^ s1 i)))) = o' → oTurn M (zI i) w = o' := fun o' h => by unfold oTurn; rw [← e, ifT hx, enx]; exact h
  have go : (tb (mSt M).2.1 i == w) = false → cV X (d + 4) 81 [.ref a, .int (zI i)] s (fun (s3 : bi_St) => K (1 : Int32) s3) (fun _ _ => False) := fun h => ct_noteSwitch hC.2.2.2.2.1.1 (by omega) (fun t ht hA => kW _ t (sw (mSt M) ((mSt M).2.1 ^^^ s1 i)) (kpH M) (by rw [e]; exact hov _ (by rw [ifF h]; rfl)) (fsc.refl.w hC.1.2.2.1 (ht.mono (wW_wY a))) (by rw [kpH_len (len40 hC)]; exact hA))
  have re : (tb (mSt M).2.1 i == w) = true → K 0 (st_p s 76 1 (st_g s 76 1 + 1)) := fun h => kR _ s (by rw [e]; exact hov _ (ifT h)) fsc.refl
  refine ⟨hS, ct_bit (by omega) ?_⟩
  rw [hC.1.1.2.2.1]
  revert go re
  show ((tb (mSt M).2.1 i == w) = false → _) → _
  have eS : M.2.2.1.1.2.1 = (mSt M).2.1 := rfl
  rw [eS]
  cases tb (mSt M).2.1 i <;> cases w
  · intro go re; exact ⟨fun _ => ⟨fun z => absurd rfl z, fun _ => ⟨rfl, rfl, re rfl⟩⟩, fun z => absurd (by decide) z⟩
  · intro go re; exact ⟨fun _ => ⟨fun _ => ⟨hS, go rfl⟩, fun z => absurd (by decide) z⟩, fun z => absurd (by decide) z⟩
  · intro go re; exact ⟨fun z => absurd rfl z, fun _ => ⟨fun _ => ⟨hS, go rfl⟩, fun z => absurd (by decide) z⟩⟩
  · intro go re; exact ⟨fun z => absurd rfl z, fun _ => ⟨fun z => absurd rfl z, fun _ => ⟨rfl, rfl, re rfl⟩⟩⟩)
theorem SR_sw {t : bi_St} {C : Nat} {S : Sta} {v : Int32} (h : SR t 0 C S) : SR (st_p t 90 6 v) 0 C (sw S v) := by
  obtain ⟨h1, h2, h3, h4, h5, h6⟩ := h
  exact ⟨h1, h2, by rw [g_p_k (by omega)]; exact h3, g_p_eq _ _ _ _, fun q hq => by rw [g_p_k (by omega)]; exact h5 q hq, fun q j hq hj => by rw [g_p_k (by omega)]; exact h6 q j hq hj⟩
theorem SR_gif {t : bi_St} {C r o : Nat} {S : Sta} (hr : r < 6) (h : SR t 0 C S) : SR (st_p t 90 r (S.1 r ^^^ s1 o)) 0 C (gifS S r o) := by
  obtain ⟨h1, h2, h3, h4, h5, h6⟩ := h
  refine ⟨h1, h2, by rw [g_p_k (by omega)]; exact h3, by rw [g_p_k (by omega)]; exact h4, fun q hq => ?_, fun q j hq hj => by rw [g_p_k (by omega)]; exact h6 q j hq hj⟩
  show _ = va_up S.1 r (S.1 r ^^^ s1 o) q
  unfold va_up
  by_cases e : q = r
  · rw [e, if_pos rfl, Nat.zero_add]; exact g_p_eq _ _ _ _
  · rw [if_neg e, g_p_k (by omega)]; exact h5 q hq
theorem add_0s (x y : Int32) : x + (0 - y) = x - y := by rw [Int32.zero_sub, ← Int32.sub_eq_add_neg]
theorem flip_s1 {v : Int32} {i : Nat} {w : Bool} (hi : i < 32) (h : (tb v i == w) = false) : (b2i w = 0 → v + (0 - s1 i) = v ^^^ s1 i) ∧ (¬ b2i w = 0 → v + s1 i = v ^^^ s1 i) := by
  cases w
  · refine ⟨fun _ => (add_0s _ _).trans (sub_s1 hi ?_), fun z => absurd rfl z⟩
    cases hv : tb v i
    · rw [hv] at h; exact absurd h (by decide)
    · rfl
  · refine ⟨fun z => absurd z (by decide), fun _ => add_s1 hi ?_⟩
    cases hv : tb v i
    · rfl
    · rw [hv] at h; exact absurd h (by decide)
theorem cR_turn {w : Bool} (ho : okM M) (hR : RRf s M) (hm : (mH M).length ≤ 40) : CtR X (d + 5) 249 [.ref 77, .int x, .int (b2i w)] s M (oTurn M x w) := CtR_w ho hR (fun K kT kR kW kF => by
  have hp8 : mp M ≤ 8 := ho.1.2.2.1
  have f0 : fsr s (st_p s 77 0 0) := fsr_0
  have h0 : st_g (st_p s 77 0 0) 77 0 = 0 := g_p_eq _ _ _ _
  have hT := RRf_sr ho hR f0
  refine en_X12_turn ?_
  generalize st_p s 77 0 (0 : Int32) = t at f0 h0 hT
  have no : oTurn M x w = .inl (100, 1) → K 0 (st_p t 77 0 1) := fun e => kF 100 1 0 _ e (f0.p (by omega) (by unfold impR impS; omega)) (g_p_eq _ _ _ _)
  rw [hT.2.1.1.2.2.1]
  refine ⟨fun h => ct_rightN h0 (by decide) ⟨fun z => absurd rfl z, fun _ => no (ifF (nIn_neg h))⟩, fun h => ⟨fun h2 => ct_rightN h0 (by decide) ⟨fun z => absurd rfl z, fun _ => no (ifF (nIn_ge (n := mp M) (by omega) h2))⟩, fun h2 => ct_rightY h0 ⟨fun _ => ⟨rfl, ?_⟩, fun z => absurd (by decide) z⟩⟩⟩
  have hx : nIn x (mp M) = true := nIn_mk h h2
  obtain ⟨i, hi, e, enx⟩ := nIn_y (n := mp M) (by omega) hx
  have h6 : st_g t 90 6 = (mSt M).2.1 := hT.2.2.1.1.2.2.2.1
  have hov : ∀ o', (if (tb (mSt M).2.1 i == w) = true then (Sum.inr (0, rfM M) : Ou) else .inr (1, doM M (sw (mSt M) ((mSt M).2.1 ^^^ s1 i)))) = o' → oTurn M x w = o' := fun o' h => by unfold oTurn; rw [ifT hx, enx]; exact h
  have go : (tb (mSt M).2.1 i == w) = false → cV X (d + 4) 204 [.ref 77] t (fun (s2 : bi_St) => bi_in (6 : Int32) 144 = true ∧ (((b2i w = 0) → bi_in (6 : Int32) 144 = true ∧ (K (1 : Int32) (st_p s2 90 ((6 : Int32)).toNatClampNeg ((st_g s2 90 ((6 : Int32)).toNatClampNeg) + ((0 : Int32) - ((1 : Int32) <<< (zI i &&& 31))))))) ∧ (¬ (b2i w = 0) → bi_in (6 : Int32) 144 = true ∧ (K (1 : Int32) (st_p s2 90 ((6 : Int32)).toNatClampNeg ((st_g s2 90 ((6 : Int32)).toNatClampNeg) + ((1 : Int32) <<< (zI i &&& 31)))))))) (fun _ _ => False) := fun hf => ct_keepsM ho hR f0 h0 hm (fun q hq fq q0 hS h40 hA => by
    have fl := flip_s1 (i := i) (by omega) hf
    have e6 : st_g q 90 6 = (mSt M).2.1 := hS.2.2.2.1
    have fin : K 1 (st_p q 90 6 ((mSt M).2.1 ^^^ s1 i)) := kW _ _ (sw (mSt M) ((mSt M).2.1 ^^^ s1 i)) (kpH M) (hov _ (by rw [ifF hf]; rfl)) fq.p (by rw [g_p_a (by omega)]; exact q0) (SR_sw hS) (by rw [g_p_a (by omega)]; exact h40) (AR_cp ho.1.1.2 _ _ (fun z _ => g_p_a (by omega)) hA)
    refine ⟨rfl, fun z => ⟨rfl, ?_⟩, fun z => ⟨rfl, ?_⟩⟩
    · show K 1 (st_p q 90 6 (st_g q 90 6 + (0 - s1 i)))
      rw [e6, fl.1 z]; exact fin
    · show K 1 (st_p q 90 6 (st_g q 90 6 + s1 i))
      rw [e6, fl.2 z]; exact fin)
  have re : (tb (mSt M).2.1 i == w) = true → cI X (d + 4) 205 [.ref 77, .int (1 : Int32)] t (fun (r3 : Int32) (s3 : bi_St) => ((r3 ≤ 0) → K (0 : Int32) s3) ∧ (¬ (r3 ≤ 0) → K (1 : Int32) s3)) (fun _ _ => False) := fun hf => ct_refuses ⟨fun _ => kR _ t (hov _ (ifT hf)) f0 h0, fun z => absurd (by decide) z⟩
  rw [e, show ((6 : Int32)).toNatClampNeg = 6 from rfl, h6, tb_b2i (by omega)]
  revert go re
  cases tb (mSt M).2.1 i <;> cases w
  · intro go re; exact ⟨fun _ => ⟨fun z => absurd rfl z, fun _ => re rfl⟩, fun z => absurd (by decide) z⟩
  · intro go re; exact ⟨fun _ => ⟨fun _ => go rfl, fun z => absurd (by decide) z⟩, fun z => absurd (by decide) z⟩
  · intro go re; exact ⟨fun z => absurd rfl z, fun _ => ⟨fun _ => go rfl, fun z => absurd (by decide) z⟩⟩
  · intro go re; exact ⟨fun z => absurd rfl z, fun _ => ⟨fun z => absurd rfl z, fun _ => re rfl⟩⟩)
theorem gno_ij {i j : Nat} {w : Bool} (h : i = j) : gno M i j w = true := by unfold gno; rw [decide_eq_true h]; rfl
theorem gno_w {i j : Nat} {w : Bool} (h : tb ((mSt M).1 i) j = w) : gno M i j w = true := by unfold gno; rw [h, beq_self_eq_true]; simp
theorem gno_c {i j : Nat} (h : tb (clo (mSt M).1 (s1 j)) i = true) : gno M i j true = true := by unfold gno; rw [h]; simp
theorem gno_f {i j : Nat} {w : Bool} (h1 : i ≠ j) (h2 : tb ((mSt M).1 i) j ≠ w) (h3 : (w && tb (clo (mSt M).1 (s1 j)) i) = false) : gno M i j w = false := by
  unfold gno; rw [decide_eq_false h1, h3, beq_eq_false_iff_ne.mpr h2]; rfl
theorem cC_grant {w : Bool} (ho : okM M) (hC : RCl s b b' a a' M) : CtC X (d + 5) 137 [.ref 0, .int x, .int y, .int (b2i w)] s M (oGrant M x y w) := CtC_w ho hC (fun K E kT kR kW kF => by
  have hR6 : mR M ≤ 6 := ho.1.2.1
  refine en_X11_grant (ct_needRole hC (fun hx => ct_needRole hC (fun hy => ?_) (fun hy => kF 100 1 s (by unfold oGrant; rw [ifT hx, ifF hy]) fsc.refl)) (fun hx => kF 100 1 s (ifF hx) fsc.refl))
  obtain ⟨i, hi, e, enx⟩ := nIn_y (n := mR M) (by omega) hx
  obtain ⟨j, hj, e2, eny⟩ := nIn_y (n := mR M) (by omega) hy
  rw [hC.1.1.1, hC.1.1.2.2.1]
  have hS := isS_31 hC.1.2.2.1
  have hov : ∀ o', (if gno M i j w = true then (Sum.inr (0, rfM M) : Ou) else .inr (1, doM M (gifS (mSt M) i j))) = o' → oGrant M x y w = o' := fun o' h => by unfold oGrant; rw [ifT hx, ifT hy, enx, eny]; exact h
  refine ⟨hC.1.2.1.1, hS, ct_sitJ ho hC (fun t ft hJ => ?_)⟩
  have hTt := RCl_sc ho hC ft
  rw [hTt.1.1.2.2.1]
  refine ⟨hS, ?_⟩
  have at93 : gno M i j w = true → at_X11_grant_93 X (d + 5) K E t := fun h => go_X11_grant_93 ⟨rfl, rfl, kR _ t (hov _ (ifT h)) ft⟩
  have at74 : (w && tb (clo (mSt M).1 (s1 j)) i) = false → at_X11_grant_74 X (d + 5) K E t (zI i) (zI j) (b2i w) (b2i (tb ((mSt M).1 i) j)) := fun hc => by
    refine go_X11_grant_74 ⟨fun h => at93 (gno_ij ((zI_eq (by omega) (by omega)).mp h)), fun h => ⟨fun h2 => at93 (gno_w ?_), fun h2 => ⟨fun _ => ?_, fun z => absurd rfl z⟩⟩⟩
    · revert h2; cases tb ((mSt M).1 i) j <;> cases w <;> intro h2 <;> first | rfl | exact absurd h2 (by decide)
    · have hg : gno M i j w = false := gno_f (fun z => h (by rw [z])) (fun z => h2 (by rw [z])) hc
      rw [hTt.1.1.2.2.1]
      exact ⟨hS, ct_noteGift (HA_sc hC ft) (by omega) (by omega) (fun u hu hA => kW _ u (gifS (mSt M) i j) (kpH M) (hov _ (by rw [ifF hg]; rfl)) (ft.w hC.1.2.2.1 (hu.mono (wW_wY a))) (by rw [kpH_len (len40 hC)]; exact hA))⟩
  have h58 : st_g t 58 j = clo (mSt M).1 (s1 j) := hJ.2.2.2.2.2.2 j (by omega)
  have hG : st_g t (a + 2) i = (mSt M).1 i := hTt.2.2.2.2.1.1.2.2.2.1.2.2.2.2.1 i (by omega)
  rw [e, e2, zI_nat (by omega), zI_nat (by omega), hG]
  refine ⟨in_zI (by omega) (by omega), ct_bit (by omega) ?_⟩
  have j6 : bi_in (zI j) 6 = true := in_zI (by omega) (by omega)
  rw [h58]
  revert at74 at93
  cases tb ((mSt M).1 i) j <;> cases w
  · intro at93 at74; exact ⟨fun _ => ⟨fun _ => at74 rfl, fun z => absurd rfl z⟩, fun z => absurd (by decide) z⟩
  · intro at93 at74
    refine ⟨fun _ => ⟨fun z => absurd z (by decide), fun _ => ⟨j6, ct_bit (by omega) ?_⟩⟩, fun z => absurd (by decide) z⟩
    cases hc : tb (clo (mSt M).1 (s1 j)) i
    · exact ⟨fun _ => at74 (by rw [hc]; rfl), fun z => absurd (by decide) z⟩
    · have k := at93 (gno_c hc)
      exact ⟨fun z => absurd rfl z, fun _ => ⟨fun _ => k, fun _ => ⟨fun _ => k, fun _ => ⟨fun z => absurd z (by decide), fun _ => k⟩⟩⟩⟩
  · intro at93 at74; exact ⟨fun z => absurd rfl z, fun _ => ⟨fun _ => at74 rfl, fun z => absurd rfl z⟩⟩
  · intro at93 at74
    refine ⟨fun z => absurd rfl z, fun _ => ⟨fun z => absurd z (by decide), fun _ => ⟨j6, ct_bit (by omega) ?_⟩⟩⟩
    cases hc : tb (clo (mSt M).1 (s1 j)) i
    · exact ⟨fun _ => at74 (by rw [hc]; rfl), fun z => absurd (by decide) z⟩
    · have k := at93 (gno_c hc)
      exact ⟨fun z => absurd rfl z, fun _ => ⟨fun _ => k, fun _ => ⟨fun _ => k, fun _ => ⟨fun z => absurd z (by decide), fun _ => k⟩⟩⟩⟩)
theorem cR_grant {w : Bool} (ho : okM M) (hR : RRf s M) (hm : (mH M).length ≤ 40) : CtR X (d + 5) 248 [.ref 77, .int x, .int y, .int (b2i w)] s M (oGrant M x y w) := CtR_w ho hR (fun K kT kR kW kF => by
  have hR6 : mR M ≤ 6 := ho.1.2.1
  have f0 : fsr s (st_p s 77 0 0) := fsr_0
  have h0 : st_g (st_p s 77 0 0) 77 0 = 0 := g_p_eq _ _ _ _
  have hT := RRf_sr ho hR f0
  refine en_X12_grant ?_
  generalize st_p s 77 0 (0 : Int32) = t at f0 h0 hT
  have no : oGrant M x y w = .inl (100, 1) → at_X12_grant_21 X (d + 5) K (fun _ _ => False) (st_p t 77 0 1) := fun e => go_X12_grant_21 (kF 100 1 0 _ e (f0.p (by omega) (by unfold impR impS; omega)) (g_p_eq _ _ _ _))
  refine ct_isRole h0 hT.2.1.2.2.2.2 (fun hx => ⟨fun z => absurd z (by decide), fun _ => ct_isRole h0 hT.2.1.2.2.2.2 (fun hy => ⟨fun _ => ?_, fun z => absurd (by decide) z⟩) (fun hy => ⟨fun z => absurd rfl z, fun _ => no (by unfold oGrant; rw [ifT hx, ifF hy])⟩)⟩) (fun hx => ⟨fun _ => no (ifF hx), fun z => absurd rfl z⟩)
  obtain ⟨i, hi, e, enx⟩ := nIn_y (n := mR M) (by omega) hx
  obtain ⟨j, hj, e2, eny⟩ := nIn_y (n := mR M) (by omega) hy
  have hov : ∀ o', (if gno M i j w = true then (Sum.inr (0, rfM M) : Ou) else .inr (1, doM M (gifS (mSt M) i j))) = o' → oGrant M x y w = o' := fun o' h => by unfold oGrant; rw [ifT hx, ifT hy, enx, eny]; exact h
  have at73 : gno M i j w = true → at_X12_grant_73 X (d + 5) K (fun _ _ => False) t := fun h => go_X12_grant_73 (ct_refuses ⟨fun _ => kR _ t (hov _ (ifT h)) f0 h0, fun z => absurd (by decide) z⟩)
  have at87 : gno M i j w = false → (tb ((mSt M).1 i) j == w) = false → at_X12_grant_87 X (d + 5) K (fun _ _ => False) t (zI i) (zI j) (b2i w) := fun hg hf => go_X12_grant_87 (ct_keepsM ho hR f0 h0 hm (fun q hq fq q0 hS h40 hA => by
    have fl := flip_s1 (i := j) (by omega) hf
    have e6 : st_g q 90 i = (mSt M).1 i := by have := hS.2.2.2.2.1 i (by omega); rw [Nat.zero_add] at this; exact this
    have fin : K 1 (st_p q 90 i ((mSt M).1 i ^^^ s1 j)) := kW _ _ (gifS (mSt M) i j) (kpH M) (hov _ (by rw [ifF hg]; rfl)) fq.p (by rw [g_p_a (by omega)]; exact q0) (SR_gif (by omega) hS) (by rw [g_p_a (by omega)]; exact h40) (AR_cp ho.1.1.2 _ _ (fun z _ => g_p_a (by omega)) hA)
    have i144 : bi_in (zI i) 144 = true := in_zI (by omega) (by omega)
    rw [zI_nat (by omega)]
    refine ⟨i144, fun z => ⟨i144, ?_⟩, fun z => ⟨i144, ?_⟩⟩
    · show K 1 (st_p q 90 i (st_g q 90 i + (0 - s1 j)))
      rw [e6, fl.1 z]; exact fin
    · show K 1 (st_p q 90 i (st_g q 90 i + s1 j))
      rw [e6, fl.2 z]; exact fin))
  have hG : st_g t 90 i = (mSt M).1 i := by have := hT.2.2.1.1.2.2.2.2.1 i (by omega); rw [Nat.zero_add] at this; exact this
  have has : ∀ (K2 : Int32 → bi_St → Prop) (E2 : Nat → bi_St → Prop), K2 (clo (mSt M).1 (s1 j)) t → cI X (d + 4) 208 [.ref 77, .int (0 : Int32), .int (zI j)] t K2 E2 := fun K2 E2 k => by
    refine ct_hasOf (b0 := 0) (R := mR M) (by omega) (by omega) hR6 hT.2.1.2.2.2.2 (fun q hq => ?_) (fun q h1 h2 => ?_) ?_
    · rw [hT.2.2.1.1.2.2.2.2.1 q hq]; exact ho.2.1.1.1.2.1 q hq
    · rw [hT.2.2.1.1.2.2.2.2.1 q h2]; exact ho.2.1.1.1.2.2 q h1 h2
    · rw [clo_congr (fun q hq => (hT.2.2.1.1.2.2.2.2.1 q hq)) _]; exact k
  rw [e, e2, zI_nat (by omega), hG, tb_b2i (by omega), zI_eq (by omega) (by omega)]
  refine ⟨in_zI (by omega) (by omega), ?_⟩
  have main : ∀ c : Bool, tb ((mSt M).1 i) j = c → ((i = j) → at_X12_grant_73 X (d + 5) K (fun _ _ => False) t) ∧ (¬ (i = j) → (((b2i c) = b2i w) → at_X12_grant_73 X (d + 5) K (fun _ _ => False) t) ∧ (¬ ((b2i c) = b2i w) → ((b2i w = 0) → at_X12_grant_87 X (d + 5) K (fun _ _ => False) t (zI i) (zI j) (b2i w)) ∧ (¬ (b2i w = 0) → cI X (d + 4) 208 [.ref 77, .int (0 : Int32), .int (zI j)] t (fun (r3 : Int32) (s3 : bi_St) => ((¬ ((r3 >>> (zI i &&& 31)) &&& (1 : Int32)) = (1 : Int32)) → at_X12_grant_87 X (d + 5) K (fun _ _ => False) s3 (zI i) (zI j) (b2i w)) ∧ (¬ (¬ ((r3 >>> (zI i &&& 31)) &&& (1 : Int32)) = (1 : Int32)) → at_X12_grant_73 X (d + 5) K (fun _ _ => False) s3)) (fun _ _ => False)))) := fun c hc => by
    refine ⟨fun h => at73 (gno_ij h), fun h => ⟨fun h2 => at73 (gno_w ?_), fun h2 => ?_⟩⟩
    · rw [hc]; revert h2; cases c <;> cases w <;> intro h2 <;> first | rfl | exact absurd h2 (by decide)
    · have hne : tb ((mSt M).1 i) j ≠ w := fun z => h2 (by rw [← hc, z])
      have hbf : (tb ((mSt M).1 i) j == w) = false := beq_eq_false_iff_ne.mpr hne
      refine ⟨fun hw => at87 (gno_f h hne ?_) hbf, fun hw => has _ _ ?_⟩
      · rw [(b2i_ne0 w).mp hw]; rfl
      · rw [tb_b2i (by omega), b2i_eq1]
        have hw : w = true := (Bool.not_eq_false _).mp (fun z => hw (by rw [z]; rfl))
        refine ⟨fun k => at87 (gno_f h hne ?_) hbf, fun k => at73 ?_⟩
        · rw [hw, (Bool.not_eq_true _).mp k]; rfl
        · rw [hw]; exact gno_c (Decidable.of_not_not k)
  cases hc : tb ((mSt M).1 i) j
  · exact ⟨fun _ => main false hc, fun z => absurd (by decide) z⟩
  · exact ⟨fun z => absurd rfl z, fun _ => main true hc⟩)
end V
end WR2
