/-! ===== a query's run, of the class ===== -/
section QRUN
/-- told, done, the row that failed, its step, peeks, their sum -/
abbrev Zq : Type := (Nat → Int32) × (Nat → Int32) × Int32 × Int32 × Int32 × Int32
def q1z (rd : Bool) (i : Nat) (z : Zq) : Zq := (va_up z.1 i (z.1 i + b2i rd), va_up z.2.1 i (z.2.1 i + 1), z.2.2)
def q1e (q : ev_Q) (r i : Nat) (z : Zq) : Zq := (z.1, z.2.1, if q.2.2.1 then zI r else z.2.2.1, if q.2.2.1 then zI i else z.2.2.2.1, z.2.2.2.2.1 + q.2.2.2.1, z.2.2.2.2.2 + q.2.2.2.2)
def q1 (S : Sta) (rd : Bool) (r i : Nat) (x : Sp) (z : Zq) : Bool × Zq := if x.1 = 0 then (rd, q1z rd i z) else (ev_ok (evo (en S x.2.2.2.2.1 r) x.2.2.2.2.2.1), q1e (evo (en S x.2.2.2.2.1 r) x.2.2.2.2.2.1) r i (q1z rd i z))
def qR (S : Sta) (rd : Bool) (r : Nat) : List Sp → Nat → Zq → Bool × Zq
  | [], _, z => (true, z)
  | x :: M, i, z => if (q1 S rd r i x z).1 then qR S rd r M (i + 1) (q1 S rd r i x z).2 else (false, (q1 S rd r i x z).2)
def qA (S : Sta) (g : Nat → Bool) (L : List Sp) : Nat → Nat → Int32 → Zq → Int32 × Zq
  | 0, _, a, z => (a, z)
  | n + 1, r, a, z => if z.2.2.1 = -1 then qA S g L n (r + 1) (if (qR S (g r) r L 0 z).1 then a ||| s1 r else a) (qR S (g r) r L 0 z).2 else (a, z)
def z0 : Zq := (fun _ => 0, fun _ => 0, -1, -1, 0, 0)
theorem JC_W {W : Nat → Nat → Bool} {s t : bi_St} {b a C R p : Nat} {f : Nat → Pol} {S : Sta} (h : fr W s t) (hW : ∀ a k, a ≤ 58 → a ≠ 57 → W a k = false) (hj : JC s b a C R p f S) : JC t b a C R p f S := by
  obtain ⟨h1, h2, h3, h4, h5, h6, h7⟩ := hj
  have hb : b ≤ 19 := by rcases h1.1 with z | z <;> omega
  have ha : a ≤ 51 := by rcases h4.1 with z | z | z | z <;> omega
  exact ⟨BC_fr (fun c k x y => h.g (hW _ _ (by omega) (by omega))) h1, by rw [h.gp]; exact h2, by rw [h.gp]; exact h3, SC_fr (fun c k x y => h.g (hW _ _ (by omega) (by omega))) h4, by rw [h.g (hW _ _ (by omega) (by omega))]; exact h5, h6, fun u hu => by rw [h.g (hW _ _ (by omega) (by omega))]; exact h7 u hu⟩
/-- what a query's run may change of the class -/
def wPn (m a k : Nat) : Bool := wA a k || ((Nat.beq a 65 && (Nat.ble m k && Nat.ble k 7)) || ((Nat.ble 67 a && Nat.ble a 75) && (Nat.ble 7 k && Nat.ble k 8)))
abbrev wP : Nat → Nat → Bool := wPn 3
abbrev wQ : Nat → Nat → Bool := wPn 4
theorem wA_wP {m : Nat} (a k : Nat) (h : wA a k = true) : wPn m a k = true := by unfold wPn; rw [h]; rfl
theorem wP_isp {m a k : Nat} (h : st_isp a) (h1 : 7 ≤ k) (h2 : k ≤ 8) : wPn m a k = true := by
  have : k = 7 ∨ k = 8 := by omega
  rcases this with rfl | rfl <;> rcases h with rfl | rfl | rfl | rfl | rfl | rfl | rfl | rfl | rfl <;> rfl
theorem ble_f {a b : Nat} (h : b < a) : Nat.ble a b = false := by
  rw [Bool.eq_false_iff]; intro z; have := Nat.le_of_ble_eq_true z; omega
theorem wP_isp0 {m a k : Nat} (h : st_isp a) (h1 : k < 7) : wPn m a k = false := by
  unfold wPn
  rw [ble_f h1, Bool.false_and, Bool.and_false, Bool.or_false, wA_ne (by rcases h with z | z | z | z | z | z | z | z | z <;> omega) (by rcases h with z | z | z | z | z | z | z | z | z <;> omega) (by rcases h with z | z | z | z | z | z | z | z | z <;> omega), beq_ne (show a ≠ 65 by rcases h with z | z | z | z | z | z | z | z | z <;> omega)]; rfl
theorem wP_lo {m a k : Nat} (h : a ≤ 58) (h1 : a ≠ 57) : wPn m a k = false := by
  unfold wPn
  rw [wA_ne (by omega) (by omega) h1, beq_ne (show a ≠ 65 by omega), ble_f (show a < 67 by omega)]; rfl
theorem isp_ge {a : Nat} (h : st_isp a) : 67 ≤ a ∧ a ≤ 75 := by rcases h with z | z | z | z | z | z | z | z | z <;> omega
/-- what lies at a step's place -/
def QS (s : bi_St) (b C : Nat) (a : Nat) (x : Sp) : Prop := x.1 ≤ 2 ∧ x.2.2.1 < 2147483648 ∧ x.2.2.2.2.1 < 6 ∧ st_g s a 0 = zI x.1 ∧ st_g s a 1 = x.2.1 ∧ st_g s a 2 = zI x.2.2.1 ∧ st_g s a 3 = zI x.2.2.2.2.1 ∧ st_g s a 5 = b2i x.2.2.2.1 ∧ st_g s a 6 = b2i x.2.2.2.2.2.2 ∧ (x.1 = 1 → rlo s (b + 8) C (st_g s a 4) x.2.2.2.2.2.1) ∧ (x.1 = 2 → rlo s 3 C (st_g s a 4) x.2.2.2.2.2.1)
theorem QS_ok (s : bi_St) (b C : Nat) : Qok s (QS s b C) := fun a x _ h => ⟨h.2.1, h.1, h.2.2.2.1, h.2.2.2.2.2.1, h.2.2.2.2.2.2.2.1, h.2.2.2.2.2.2.2.2.1⟩
def DZ (s t : bi_St) (n : Nat) (z : Zq) : Prop := (∀ i, i < n → st_g t (st_gp s (10 + i)) 7 = z.1 i ∧ st_g t (st_gp s (10 + i)) 8 = z.2.1 i) ∧ st_g t 65 4 = z.2.2.1 ∧ st_g t 65 5 = z.2.2.2.1 ∧ st_g t 65 6 = z.2.2.2.2.1 ∧ st_g t 65 7 = z.2.2.2.2.2
theorem drop_cons {α : Type} {L M : List α} {x : α} {i : Nat} (h : x :: M = L.drop i) : L[i]? = some x ∧ M = L.drop (i + 1) ∧ i < L.length := by
  have h1 : L[i]? = some x := by
    have := List.getElem?_drop (xs := L) (i := i) (j := 0)
    rw [← h] at this; simpa using this.symm
  refine ⟨h1, ?_, (List.getElem?_eq_some_iff.mp h1).1⟩
  have : L.drop (i + 1) = (L.drop i).drop 1 := by rw [List.drop_drop]
  rw [this, ← h]; rfl
def prZ (s2 : bi_St) : bi_St := st_p (st_p s2 65 6 ((st_g s2 65 6) + (st_g s2 57 8))) 65 7 ((st_g (st_p s2 65 6 ((st_g s2 65 6) + (st_g s2 57 8))) 65 7) + (st_g (st_p s2 65 6 ((st_g s2 65 6) + (st_g s2 57 8))) 57 9))
def prK (X : bi_X) (d : Nat) (K : Int32 → bi_St → Prop) (E : Nat → bi_St → Prop) (y3 y4 y5 : Int32) (b2 : Nat) (r2 : Int32) (s2 : bi_St) : Prop := ((st_g (prZ s2) 57 7 = 0) → at_X3_passRow_151 X (d + 1) K E (prZ s2) y3 y4 y5 r2 b2) ∧ (¬ (st_g (prZ s2) 57 7 = 0) → at_X3_passRow_151 X (d + 1) K E (st_p (st_p (prZ s2) 65 4 y3) 65 5 y5) y3 y4 y5 r2 b2)
def prSh (X : bi_X) (d : Nat) (K : Int32 → bi_St → Prop) (E : Nat → bi_St → Prop) (u : bi_St) (pl : Nat) (y3 y4 y5 : Int32) (b2 : Nat) : Prop :=
  ((¬ (st_g u pl 0) = 0) → cV X d 26 [.ref 57, .int (st_g u pl 3)] u (fun (s1 : bi_St) => ((¬ (st_g s1 pl 0) = (1 : Int32)) → cI X d 34 [.ref 57, .ref b2, .int (st_g s1 pl 4)] s1 (fun r2 s2 => prK X d K E y3 y4 y5 b2 r2 s2) (fun _ _ => False)) ∧ (¬ (¬ (st_g s1 pl 0) = (1 : Int32)) → st_isB (st_gp s1 7) ∧ (cI X d 34 [.ref 57, .ref ((st_gp s1 7) + 8), .int (st_g s1 pl 4)] s1 (fun r2 s2 => prK X d K E y3 y4 y5 b2 r2 s2) (fun _ _ => False)))) (fun _ _ => False)) ∧
  (¬ (¬ (st_g u pl 0) = 0) → ((¬ y4 = 0) → at_X3_passRow_158 X (d + 1) K E u y3 y4 y5 b2) ∧ (¬ (¬ y4 = 0) → K (0 : Int32) u))
theorem ct_passRowL {X : bi_X} {d : Nat} {K : Int32 → bi_St → Prop} {E : Nat → bi_St → Prop} {s : bi_St} {b a C R p r : Nat} {f : Nat → Pol} {S : Sta} {L : List Sp} {rd : Bool} (hj : JC s b a C R p f S) (hP : PQ s (QS s b C) L) (hl : L.length ≤ 9) (h2 : st_g s 65 2 = zI L.length) (hr : r < S.2.2.1) :
    ∀ (M : List Sp) (i : Nat) (z : Zq) (t : bi_St), M = L.drop i → i ≤ 9 → fr wQ s t → DZ s t L.length z → (∀ c, c < 4 → st_g t 59 c = st_g s (a + 1) (4 * r + c)) →
      (∀ u, fr wQ s u → DZ s u L.length (qR S rd r M i z).2 → K (b2i (qR S rd r M i z).1) u) → at_X3_passRow_3 X (d + 2) K E t (zI r) (b2i rd) (zI i) 3 := by
  have hR3 : st_isR 3 := Or.inl rfl
  have hB := hj.1.1
  have hS := hj.2.2.2.1.1
  have hn := hj.2.2.2.1.2.1
  have hC := hj.1.2.1
  have hb8 : st_isR (b + 8) := by rcases hB with z | z <;> subst z; exact Or.inr (Or.inl rfl); exact Or.inr (Or.inr rfl)
  have ha1 : a + 1 ≤ 58 ∧ a + 1 ≠ 57 := by rcases hS with z | z | z | z <;> omega
  have hb58 : b ≤ 19 := by rcases hB with z | z <;> omega
  intro M
  induction M with
  | nil =>
    intro i z t hM hi ht hz hlin k
    have : L.length ≤ i := by
      have := congrArg List.length hM
      rw [List.length_drop] at this
      have h0 : ([] : List Sp).length = 0 := rfl
      omega
    refine go_X3_passRow_3 hR3 ⟨fun _ => k t ht hz, fun y => absurd ?_ y⟩
    rw [ht.g rfl, h2]; exact (zI_le (by omega) (by omega)).mpr this
  | cons x M ih =>
    intro i z t hM hi ht hz hlin k
    obtain ⟨hx, hM', hiL⟩ := drop_cons hM
    have hpl := hP.1 i (by omega)
    obtain ⟨c1, c2, c3, c4, c5, c6, c7, c8, c9, c10, c11⟩ := hP.2.2 i x hx
    obtain ⟨pl, epl⟩ : ∃ pl, pl = st_gp s (10 + i) := ⟨_, rfl⟩
    rw [← epl] at hpl c4 c5 c6 c7 c8 c9 c10 c11
    have hge := isp_ge hpl
    have main : ∀ u, fr wQ s u → DZ s u L.length (q1z rd i z) → (∀ c, c < 4 → st_g u 59 c = st_g s (a + 1) (4 * r + c)) → prSh X (d + 1) K E u pl (zI r) (b2i rd) (zI i) 3 := by
      intro u hu huz hul
      have c0 : st_g u pl 0 = zI x.1 := by rw [hu.g (wP_isp0 hpl (by omega))]; exact c4
      have e0 : (zI x.1 = 0) ↔ x.1 = 0 := zI_eq (b := 0) (by omega) (by omega)
      have e1 : (zI x.1 = 1) ↔ x.1 = 1 := zI_eq (b := 1) (by omega) (by omega)
      unfold prSh
      rw [c0, e0]
      refine ⟨fun hk => ?_, fun hk => ?_⟩
      · have hq1 : q1 S rd r i x z = (ev_ok (evo (en S x.2.2.2.2.1 r) x.2.2.2.2.2.1), q1e (evo (en S x.2.2.2.2.1 r) x.2.2.2.2.2.1) r i (q1z rd i z)) := by unfold q1; rw [if_neg hk]
        rw [hu.g (wP_isp0 hpl (by omega)), c7]
        refine ct_become c3 (fun v hv v5 v6 v59 => ?_)
        have hsv : fr wQ s v := hu.trans (hv.mono wA_wP)
        have hjv : JC v b a C R p f S := JC_W hsv (fun a k h1 h2 => wP_lo h1 h2) hj
        have env : envC v C (en S x.2.2.2.2.1 r) := by
          refine JC_env hjv hr (fun c hc => ?_) v5 ?_
          · rw [v59, hul c hc, hsv.g (wP_lo ha1.1 ha1.2)]
          · rw [v6, hu.g (wP_lo (by omega) (by omega))]; exact hj.2.2.2.2.2.2 _ c3
        have c0v : st_g v pl 0 = zI x.1 := by rw [hsv.g (wP_isp0 hpl (by omega))]; exact c4
        have c4v : st_g v pl 4 = st_g s pl 4 := hsv.g (wP_isp0 hpl (by omega))
        have fin : ∀ w, fr wH v w → st_g w 57 7 = b2i (evo (en S x.2.2.2.2.1 r) x.2.2.2.2.2.1).2.2.1 → st_g w 57 8 = (evo (en S x.2.2.2.2.1 r) x.2.2.2.2.2.1).2.2.2.1 → st_g w 57 9 = (evo (en S x.2.2.2.2.1 r) x.2.2.2.2.2.1).2.2.2.2 → prK X (d + 1) K E (zI r) (b2i rd) (zI i) 3 (b2i (ev_ok (evo (en S x.2.2.2.2.1 r) x.2.2.2.2.2.1))) w := by
          obtain ⟨q, hq⟩ : ∃ q, q = evo (en S x.2.2.2.2.1 r) x.2.2.2.2.2.1 := ⟨_, rfl⟩
          rw [← hq] at hq1 ⊢
          intro w hw w7 w8 w9
          have hsw : fr wQ s w := hsv.trans (hw.mono fun a k h => wA_wP a k (wH_wA a k h))
          have hswZ : fr wQ s (prZ w) := (hsw.p rfl).p rfl
          have w65 : ∀ k, st_g w 65 k = st_g u 65 k := fun k => by rw [hw.g (wH_ne (by omega) (by omega)), hv.g (wA_ne (by omega) (by omega) (by omega))]
          have g7 : st_g (prZ w) 57 7 = b2i q.2.2.1 := by
            unfold prZ; rw [g_p_a (by omega), g_p_a (by omega)]; exact w7
          have line' : ∀ t', (∀ c, st_g t' 59 c = st_g w 59 c) → ∀ c, c < 4 → st_g t' 59 c = st_g s (a + 1) (4 * r + c) := fun t' ht' c hc => by
            rw [ht', hw.g (wH_ne (by omega) (by omega)), v59]; exact hul c hc
          have plw : ∀ j, j < L.length → ∀ q, st_g w (st_gp s (10 + j)) q = st_g u (st_gp s (10 + j)) q := fun j hjl q => by
            have := isp_ge (hP.1 j (by omega))
            rw [hw.g (wH_ne (by omega) (by omega)), hv.g (wA_ne (by omega) (by omega) (by omega))]
          have go : ∀ t', fr wQ s t' → (∀ c, st_g t' 59 c = st_g w 59 c) → DZ s t' L.length (q1e q r i (q1z rd i z)) → at_X3_passRow_151 X (d + 1 + 1) K E t' (zI r) (b2i rd) (zI i) (b2i (ev_ok q)) 3 := by
            intro t' ht' ht59 htz
            have hqR : qR S rd r (x :: M) i z = if ev_ok q then qR S rd r M (i + 1) (q1e q r i (q1z rd i z)) else (false, q1e q r i (q1z rd i z)) := by
              rw [qR, hq1]
            refine go_X3_passRow_151 hR3 ?_
            rw [b2i_ne0]
            refine ⟨fun h => go_X3_passRow_158 hR3 ?_, fun h => ?_⟩
            · have h : ev_ok q = true := by simpa using h
              rw [zI_add1]
              rw [hqR, if_pos h] at k
              exact ih (i + 1) _ t' hM' (by omega) ht' htz (line' t' ht59) k
            · have h : ev_ok q = false := Decidable.of_not_not h
              rw [hqR, if_neg (by rw [h]; simp)] at k
              exact k t' ht' htz
          have base : DZ s (prZ w) L.length (z.1, z.2) → True := fun _ => trivial
          have d6 : st_g (prZ w) 65 6 = (q1z rd i z).2.2.2.2.1 + q.2.2.2.1 := by
            unfold prZ; rw [g_p_k (by omega), g_p_eq, w8, w65, huz.2.2.2.1]
          have d7 : st_g (prZ w) 65 7 = (q1z rd i z).2.2.2.2.2 + q.2.2.2.2 := by
            unfold prZ; rw [g_p_eq, g_p_k (by omega), g_p_a (by omega), w9, w65, huz.2.2.2.2]
          have d4 : ∀ k, k = 4 ∨ k = 5 → st_g (prZ w) 65 k = st_g u 65 k := fun k hk => by
            unfold prZ; rw [g_p_k (by omega), g_p_k (by omega), w65]
          have dp : ∀ j, j < L.length → ∀ q, st_g (prZ w) (st_gp s (10 + j)) q = st_g u (st_gp s (10 + j)) q := fun j hjl q => by
            have := isp_ge (hP.1 j (by omega))
            unfold prZ; rw [g_p_a (by omega), g_p_a (by omega)]; exact plw j hjl q
          have d59 : ∀ c, st_g (prZ w) 59 c = st_g w 59 c := fun c => by unfold prZ; rw [g_p_a (by omega), g_p_a (by omega)]
          unfold prK
          rw [g7, b2i_ne0]
          refine ⟨fun hf => go _ hswZ d59 ⟨fun j hjl => ?_, ?_, ?_, d6, d7⟩, fun hf => go _ ((hswZ.p rfl).p rfl) (fun c => by rw [g_p_a (by omega), g_p_a (by omega)]; exact d59 c) ⟨fun j hjl => ?_, ?_, ?_, ?_, ?_⟩⟩
          · rw [dp j hjl, dp j hjl]; exact huz.1 j hjl
          · rw [d4 4 (Or.inl rfl)]; simp only [q1e, hf]; exact huz.2.1
          · rw [d4 5 (Or.inr rfl)]; simp only [q1e, hf]; exact huz.2.2.1
          · have := isp_ge (hP.1 j (by omega))
            rw [g_p_a (by omega), g_p_a (by omega), g_p_a (by omega), g_p_a (by omega), dp j hjl, dp j hjl]; exact huz.1 j hjl
          · have hf : q.2.2.1 = true := by simpa using hf
            rw [g_p_k (by omega), g_p_eq]; simp only [q1e, hf, if_true]
          · have hf : q.2.2.1 = true := by simpa using hf
            rw [g_p_eq]; simp only [q1e, hf, if_true]
          · rw [g_p_k (by omega), g_p_k (by omega)]; exact d6
          · rw [g_p_k (by omega), g_p_k (by omega)]; exact d7
        rw [c0v, e1, c4v]
        have rfr : ∀ bb, bb + 3 ≤ 56 → ∀ P, rlo s bb C (st_g s pl 4) P → rlo v bb C (st_g s pl 4) P := fun bb hbb P hh => rlo_fr (fun c k h1 h2 => hsv.g (wP_lo (by omega) (by omega))) hh
        refine ⟨fun h1 => ?_, fun h1 => ?_⟩
        · exact ct_holds hR3 hC (rfr 3 (by omega) _ (c11 (by omega))) env.1 env.2.1 env.2.2 fin
        · have h1 := Decidable.of_not_not h1
          refine ⟨by rw [hjv.2.1]; exact hB, ?_⟩
          rw [hjv.2.1]
          exact ct_holds hb8 hC (rfr (b + 8) (by omega) _ (c10 h1)) env.1 env.2.1 env.2.2 fin
      · have hk := Decidable.of_not_not hk
        have hq1 : q1 S rd r i x z = (rd, q1z rd i z) := by unfold q1; rw [if_pos hk]
        have hqR : qR S rd r (x :: M) i z = if rd then qR S rd r M (i + 1) (q1z rd i z) else (false, q1z rd i z) := by rw [qR, hq1]
        rw [b2i_ne0]
        refine ⟨fun h => go_X3_passRow_158 hR3 ?_, fun h => ?_⟩
        · have h : rd = true := by simpa using h
          rw [zI_add1]
          rw [hqR, if_pos h] at k
          exact ih (i + 1) _ u hM' (by omega) hu huz hul k
        · have h : rd = false := Decidable.of_not_not h
          rw [hqR, if_neg (by rw [h]; simp)] at k
          exact k u hu huz
    have hgp : st_gp t (10 + i) = pl := by rw [ht.gp, epl]
    have st : ∀ v, v = b2i rd → prSh X (d + 1) K E (st_p (st_p t pl 8 ((st_g t pl 8) + (1 : Int32))) pl 7 ((st_g (st_p t pl 8 ((st_g t pl 8) + (1 : Int32))) pl 7) + v)) pl (zI r) (b2i rd) (zI i) 3 := by
      intro v hv
      refine main _ ((ht.p (wP_isp hpl (by omega) (by omega))).p (wP_isp hpl (by omega) (by omega))) ⟨fun j hjl => ?_, ?_, ?_, ?_, ?_⟩ (fun c hc => ?_)
      · by_cases hji : j = i
        · subst hji
          rw [← epl, g_p_eq, g_p_k (by omega), g_p_k (by omega), g_p_eq]
          have := hz.1 j hjl
          rw [← epl] at this
          rw [this.1, this.2, hv]
          simp only [q1z]; rw [va_upe, va_upe]; simp
        · have hne : st_gp s (10 + j) ≠ pl := fun h => hji (hP.2.1 j i (by omega) (by omega) (by rw [h, epl]))
          rw [g_p_a hne, g_p_a hne, g_p_a hne, g_p_a hne]
          simp only [q1z]; rw [va_upe, va_upe, if_neg hji, if_neg hji]; exact hz.1 j hjl
      · rw [g_p_a (by omega), g_p_a (by omega)]; exact hz.2.1
      · rw [g_p_a (by omega), g_p_a (by omega)]; exact hz.2.2.1
      · rw [g_p_a (by omega), g_p_a (by omega)]; exact hz.2.2.2.1
      · rw [g_p_a (by omega), g_p_a (by omega)]; exact hz.2.2.2.2
      · rw [g_p_a (by omega), g_p_a (by omega)]; exact hlin c hc
    refine go_X3_passRow_3 hR3 ⟨fun y => ?_, fun _ => ?_⟩
    · rw [ht.g rfl, h2, zI_le (by omega) (by omega)] at y; omega
    · rw [zI_nat (by omega), hgp]
      refine ⟨in_zI (by omega) (by omega), hpl, fun y => ?_, fun y => ?_⟩
      · rw [b2i_ne0] at y
        have := st 0 (by rw [y]; rfl)
        exact this
      · rw [b2i_ne0] at y
        have y : rd = true := by simpa using y
        exact st 1 (by rw [y]; rfl)
theorem DZ_fr {W : Nat → Nat → Bool} {s t u : bi_St} {n : Nat} {z : Zq} {Q : Nat → Sp → Prop} {L : List Sp} (hP : PQ s Q L) (hn : n ≤ 9) (h : fr W t u) (hW : ∀ a k, (65 = a ∧ 4 ≤ k ∧ k ≤ 7) ∨ (67 ≤ a ∧ a ≤ 75) → W a k = false) (hz : DZ s t n z) : DZ s u n z := by
  refine ⟨fun i hi => ?_, ?_, ?_, ?_, ?_⟩
  · have := isp_ge (hP.1 i (by omega))
    rw [h.g (hW _ _ (Or.inr this)), h.g (hW _ _ (Or.inr this))]; exact hz.1 i hi
  · rw [h.g (hW _ _ (Or.inl ⟨rfl, by omega, by omega⟩))]; exact hz.2.1
  · rw [h.g (hW _ _ (Or.inl ⟨rfl, by omega, by omega⟩))]; exact hz.2.2.1
  · rw [h.g (hW _ _ (Or.inl ⟨rfl, by omega, by omega⟩))]; exact hz.2.2.2.1
  · rw [h.g (hW _ _ (Or.inl ⟨rfl, by omega, by omega⟩))]; exact hz.2.2.2.2
theorem wQ_wP (a k : Nat) (h : wQ a k = true) : wP a k = true := by
  unfold wQ wP wPn at *
  by_cases h4 : Nat.ble 4 k = true
  · have h3 : Nat.ble 3 k = true := Nat.ble_eq_true_of_le (by have := Nat.le_of_ble_eq_true h4; omega)
    rw [h4] at h; rw [h3]; exact h
  · have h4 : Nat.ble 4 k = false := Bool.eq_false_iff.mpr h4
    rw [h4, Bool.false_and, Bool.and_false, Bool.false_or] at h
    rw [Bool.or_eq_true] at h ⊢
    rcases h with h | h
    · exact Or.inl h
    · exact Or.inr (by rw [h]; simp)
theorem PQ_wP {s t : bi_St} {b a C R p : Nat} {f : Nat → Pol} {S : Sta} {L : List Sp} (h : fr wP s t) (hj : JC s b a C R p f S) (hl : L.length ≤ 9) (hP : PQ s (QS s b C) L) : PQ t (QS t b C) L := by
  have hb58 : b ≤ 19 := by rcases hj.1.1 with z | z <;> omega
  refine ⟨fun i hi => by rw [h.gp]; exact hP.1 i hi, fun i j hi hj' he => hP.2.1 i j hi hj' (by rw [h.gp, h.gp] at he; exact he), fun i x hx => ?_⟩
  have hi : i < 9 := by have := (List.getElem?_eq_some_iff.mp hx).1; omega
  have hpl := hP.1 i hi
  rw [h.gp]
  obtain ⟨c1, c2, c3, c4, c5, c6, c7, c8, c9, c10, c11⟩ := hP.2.2 i x hx
  have g : ∀ k, k < 7 → st_g t (st_gp s (10 + i)) k = st_g s (st_gp s (10 + i)) k := fun k hk => h.g (wP_isp0 hpl hk)
  have rfr : ∀ bb, bb + 3 ≤ 56 → ∀ v P, rlo s bb C v P → rlo t bb C v P := fun bb hbb v P hh => rlo_fr (fun c k h1 h2 => h.g (wP_lo (by omega) (by omega))) hh
  refine ⟨c1, c2, c3, by rw [g _ (by omega)]; exact c4, by rw [g _ (by omega)]; exact c5, by rw [g _ (by omega)]; exact c6, by rw [g _ (by omega)]; exact c7, by rw [g _ (by omega)]; exact c8, by rw [g _ (by omega)]; exact c9, fun h1 => ?_, fun h1 => ?_⟩
  · rw [g _ (by omega)]; exact rfr _ (by omega) _ _ (c10 h1)
  · rw [g _ (by omega)]; exact rfr _ (by omega) _ _ (c11 h1)
/-- what a query's run gives: the answer, and the rest -/
def qans (w : Int32 × Zq) : Int32 := if w.2.2.2.1 = -1 then w.1 else 0
theorem ct_pass {X : bi_X} {d : Nat} {K : bi_St → Prop} {E : Nat → bi_St → Prop} {s : bi_St} {b a C R p tas : Nat} {f : Nat → Pol} {S : Sta} {L : List Sp} (hj : JC s b a C R p f S) (hP : PQ s (QS s b C) L) (hl : L.length ≤ 9) (h2 : st_g s 65 2 = zI L.length) (h8 : st_g s 65 8 = zI tas) (htas : tas < 6)
    (h78 : ∀ i, i < L.length → st_g s (st_gp s (10 + i)) 7 = 0 ∧ st_g s (st_gp s (10 + i)) 8 = 0)
    (k : ∀ t, fr wP s t → DZ s t L.length (qA S (reads p f S tas) L S.2.2.1 0 0 z0).2 → st_g t 65 3 = qans (qA S (reads p f S tas) L S.2.2.1 0 0 z0) → K t) : cV X (d + 5) 46 [.ref 65, .ref 57, .ref 3] s K E := by
  have hR3 : st_isR 3 := Or.inl rfl
  have hS := hj.2.2.2.1.1
  have hn := hj.2.2.2.1.2.1
  have ha1 : a + 1 ≤ 58 ∧ a + 1 ≠ 57 := by rcases hS with z | z | z | z <;> omega
  obtain ⟨F, hF⟩ : ∃ F, F = qA S (reads p f S tas) L S.2.2.1 0 0 z0 := ⟨_, rfl⟩
  rw [← hF] at k
  have w65 : ∀ q, 3 ≤ q → q ≤ 7 → wP 65 q = true := fun q h1 h2 => by
    have : q = 3 ∨ q = 4 ∨ q = 5 ∨ q = 6 ∨ q = 7 := by omega
    rcases this with rfl | rfl | rfl | rfl | rfl <;> rfl
  have loop : ∀ n r (ans : Int32) (z : Zq) (t : bi_St), n = S.2.2.1 - r → r ≤ S.2.2.1 → fr wP s t → DZ s t L.length z → st_g t 65 3 = ans → F = qA S (reads p f S tas) L n r ans z → at_X3_pass_37 X (d + 5) K E t (bo (reads p f S tas) S.2.2.1) (zI r) 3 := by
    intro n
    induction n with
    | zero =>
      intro r ans z t hnr hr ht hz h3 he
      have hjt := JC_W ht (fun a k h1 h2 => wP_lo h1 h2) hj
      have : r = S.2.2.1 := by omega
      subst this
      have he : F = (ans, z) := he
      have hq : qans F = if z.2.2.1 = -1 then ans else 0 := by rw [he]; rfl
      have hFz : F.2 = z := by rw [he]
      rw [hq, hFz] at k
      refine go_X3_pass_37 hR3 ⟨by rw [hjt.2.2.1]; exact hS, fun _ => ⟨fun h => ?_, fun h => ?_⟩, fun y => absurd ?_ y⟩
      · rw [hz.2.1] at h; exact k t ht hz (by rw [if_pos h]; exact h3)
      · rw [hz.2.1] at h
        refine k _ (ht.p rfl) ?_ (by rw [if_neg h, g_p_eq])
        refine ⟨fun i hi => ?_, ?_, ?_, ?_, ?_⟩
        · have := isp_ge (hP.1 i (by omega))
          rw [g_p_a (by omega), g_p_a (by omega)]; exact hz.1 i hi
        · rw [g_p_k (by omega)]; exact hz.2.1
        · rw [g_p_k (by omega)]; exact hz.2.2.1
        · rw [g_p_k (by omega)]; exact hz.2.2.2.1
        · rw [g_p_k (by omega)]; exact hz.2.2.2.2
      · rw [hjt.2.2.1, hjt.2.2.2.1.2.2.1]; exact (zI_le (by omega) (by omega)).mpr (Nat.le_refl _)
    | succ n ih =>
      intro r ans z t hnr hr ht hz h3 he
      have hjt := JC_W ht (fun a k h1 h2 => wP_lo h1 h2) hj
      rw [qA] at he
      refine go_X3_pass_37 hR3 ⟨by rw [hjt.2.2.1]; exact hS, fun y => ?_, fun _ => ⟨fun h => ?_, fun h => ?_⟩⟩
      · rw [hjt.2.2.1, hjt.2.2.2.1.2.2.1, zI_le (by omega) (by omega)] at y; omega
      · rw [hz.2.1] at h ⊢
        rw [if_neg h] at he
        have hq : qans F = 0 := by rw [he]; unfold qans; rw [if_neg h]
        have hFz : F.2 = z := by rw [he]
        rw [hq, hFz] at k
        refine ⟨fun h' => absurd h' h, fun _ => k _ (ht.p rfl) ?_ (by rw [g_p_eq])⟩
        refine ⟨fun i hi => ?_, ?_, ?_, ?_, ?_⟩
        · have := isp_ge (hP.1 i (by omega))
          rw [g_p_a (by omega), g_p_a (by omega)]; exact hz.1 i hi
        · rw [g_p_k (by omega)]; exact hz.2.1
        · rw [g_p_k (by omega)]; exact hz.2.2.1
        · rw [g_p_k (by omega)]; exact hz.2.2.2.1
        · rw [g_p_k (by omega)]; exact hz.2.2.2.2
      · have h := Decidable.of_not_not h
        rw [hz.2.1] at h
        rw [if_pos h] at he
        refine ct_take hjt.2.2.1 hS (by omega) (fun t1 ht1 hl1 _ => ct_bit (by omega) ?_)
        have hs1 : fr wP s t1 := ht.trans (ht1.mono wA_wP)
        have hz1 : DZ s t1 L.length z := DZ_fr hP hl ht1 (fun a k h => wA_ne (by omega) (by omega) (by omega)) hz
        have hl1' : ∀ c, c < 4 → st_g t1 59 c = st_g s (a + 1) (4 * r + c) := fun c hc => by rw [hl1 c hc, ht.g (wP_lo ha1.1 ha1.2)]
        have hbo : tb (bo (reads p f S tas) S.2.2.1) r = reads p f S tas r := by rw [tb_bo (by omega) (by omega), decide_eq_true (show r < S.2.2.1 by omega)]; rfl
        have t13 : st_g t1 65 3 = ans := by rw [ht1.g (wA_ne (by omega) (by omega) (by omega))]; exact h3
        rw [hbo, b2i_eq1]
        have go : ∀ v, v = b2i (reads p f S tas r) → cI X (d + 4) 47 [.ref 65, .ref 57, .ref 3, .int (zI r), .int v] t1 (fun r4 s4 => ((r4 = 0) → at_X3_pass_37 X (d + 4 + 1) K E s4 (bo (reads p f S tas) S.2.2.1) (zI r + (1 : Int32)) 3) ∧ (¬ (r4 = 0) → at_X3_pass_37 X (d + 4 + 1) K E (st_p s4 65 3 ((st_g s4 65 3) ||| ((1 : Int32) <<< (zI r &&& 31)))) (bo (reads p f S tas) S.2.2.1) (zI r + (1 : Int32)) 3)) (fun _ _ => False) := by
          intro v hv
          subst hv
          have hj1 := JC_W hs1 (fun a k h1 h2 => wP_lo h1 h2) hj
          have hP1 : PQ t1 (QS t1 b C) L := PQ_wP hs1 hj hl hP
          have hz1' : DZ t1 t1 L.length z := ⟨fun i hi => by rw [hs1.gp]; exact hz1.1 i hi, hz1.2⟩
          refine en_X3_passRow hR3 (ct_passRowL (rd := reads p f S tas r) (r := r) (a := a) (d := d + 2) hj1 hP1 hl (by rw [hs1.g rfl]; exact h2) (by omega) L 0 z t1 rfl (by omega) fr.refl hz1' (fun c hc => by rw [hl1' c hc, hs1.g (wP_lo ha1.1 ha1.2)]) (fun u hu huz => ?_))
          have hsu : fr wP s u := hs1.trans (hu.mono wQ_wP)
          have huz' : DZ s u L.length (qR S (reads p f S tas r) r L 0 z).2 := ⟨fun i hi => by rw [← hs1.gp]; exact huz.1 i hi, huz.2⟩
          have u3 : st_g u 65 3 = ans := by rw [hu.g rfl]; exact t13
          rw [b2i_ne0, zI_add1]
          refine ⟨fun hb => ?_, fun hb => ?_⟩
          · rw [if_neg (by rw [hb]; simp)] at he
            exact ih (r + 1) ans _ u (by omega) (by omega) hsu huz' u3 he
          · have hb : (qR S (reads p f S tas r) r L 0 z).1 = true := by simpa using hb
            rw [if_pos hb] at he
            refine ih (r + 1) (ans ||| s1 r) _ _ (by omega) (by omega) (hsu.p rfl) ⟨fun i hi => ?_, ?_, ?_, ?_, ?_⟩ (by rw [g_p_eq, u3]; rfl) he
            · have := isp_ge (hP.1 i (by omega))
              rw [g_p_a (by omega), g_p_a (by omega)]; exact huz'.1 i hi
            · rw [g_p_k (by omega)]; exact huz'.2.1
            · rw [g_p_k (by omega)]; exact huz'.2.2.1
            · rw [g_p_k (by omega)]; exact huz'.2.2.2.1
            · rw [g_p_k (by omega)]; exact huz'.2.2.2.2
        refine ⟨fun hb => ?_, fun hb => ?_⟩
        · exact go 0 (by rw [show reads p f S tas r = false by simpa using hb]; rfl)
        · exact go 1 (by rw [Decidable.of_not_not hb]; rfl)
  have f0 : fr wP s (st_p (st_p (st_p (st_p (st_p s 65 3 (0 : Int32)) 65 4 (-1 : Int32)) 65 5 (-1 : Int32)) 65 6 (0 : Int32)) 65 7 (0 : Int32)) := ((((fr.refl.p rfl).p rfl).p rfl).p rfl).p rfl
  have z1 : DZ s (st_p (st_p (st_p (st_p (st_p s 65 3 (0 : Int32)) 65 4 (-1 : Int32)) 65 5 (-1 : Int32)) 65 6 (0 : Int32)) 65 7 (0 : Int32)) L.length z0 := by
    refine ⟨fun i hi => ?_, ?_, ?_, ?_, ?_⟩
    · have := isp_ge (hP.1 i (by omega))
      iterate 10 rw [g_p_a (by omega)]
      exact h78 i hi
    · rw [g_p_k (by omega), g_p_k (by omega), g_p_k (by omega), g_p_eq]; rfl
    · rw [g_p_k (by omega), g_p_k (by omega), g_p_eq]; rfl
    · rw [g_p_k (by omega), g_p_eq]; rfl
    · rw [g_p_eq]; rfl
  have z3 : st_g (st_p (st_p (st_p (st_p (st_p s 65 3 (0 : Int32)) 65 4 (-1 : Int32)) 65 5 (-1 : Int32)) 65 6 (0 : Int32)) 65 7 (0 : Int32)) 65 3 = 0 := by
    rw [g_p_k (by omega), g_p_k (by omega), g_p_k (by omega), g_p_k (by omega), g_p_eq]
  refine en_X3_pass hR3 ?_
  generalize st_p (st_p (st_p (st_p (st_p s 65 3 (0 : Int32)) 65 4 (-1 : Int32)) 65 5 (-1 : Int32)) 65 6 (0 : Int32)) 65 7 (0 : Int32) = s0 at f0 z1 z3
  rw [f0.g rfl, h8]
  refine ct_rowsRead (JC_W f0 (fun a k h1 h2 => wP_lo h1 h2) hj) htas (fun t ht => ?_)
  exact loop S.2.2.1 0 0 z0 t (by omega) (by omega) (f0.trans (ht.mono wA_wP)) (DZ_fr hP hl ht (fun a k h => wA_ne (by omega) (by omega) (by omega)) z1) (by rw [ht.g (wA_ne (by omega) (by omega) (by omega))]; exact z3) hF
end QRUN
