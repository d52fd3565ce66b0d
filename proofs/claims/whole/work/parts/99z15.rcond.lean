/-! ===== the reference reads conditions ===== -/
section RCOND
def wQf (c k : Nat) : Prop := (c = 77 ∧ k ≤ 26) ∨ (80 ≤ c ∧ c ≤ 82) ∨ (103 ≤ c ∧ c ≤ 105) ∨ (c = 79 ∧ k = 0)
def wQg (c k : Nat) : Prop := (c = 77 ∧ (k ≤ 2 ∨ (5 ≤ k ∧ k ≤ 26))) ∨ (80 ≤ c ∧ c ≤ 82) ∨ (103 ≤ c ∧ c ≤ 105)
def wQs (c k : Nat) : Prop := (c = 77 ∧ (k ≤ 26 ∨ k = 48)) ∨ (80 ≤ c ∧ c ≤ 82) ∨ c = 88 ∨ (98 ≤ c ∧ c ≤ 100) ∨ (103 ≤ c ∧ c ≤ 105)
def DQ (s : bi_St) (lo : Nat) (D : List (Lp × Bool)) : Prop := ∀ i x, D[i]? = some x → ro s lo (st_g s 103 i) (some x.1) ∧ st_g s 104 i = zI x.1.length ∧ st_g s 105 i = b2i x.2
def DRr (s : bi_St) (D : List (Lp × Bool)) : Prop := ∀ i x, D[i]? = some x → roc s 88 (st_g s 98 i) (some x.1) ∧ st_g s 99 i = zI x.1.length ∧ st_g s 100 i = b2i x.2
theorem rc_roc {u t : bi_St} {b lo : Nat} {x : Int32} {P : Option Lp} (hlo : lo ≤ 1400) (h : ∀ k, k < 1400 → st_g t b k = st_g u 80 k) (hr : ro u lo x P) : roc t b x P := by
  cases P with
  | none => exact hr
  | some P =>
    obtain ⟨n, h1, h2, h3⟩ := hr
    exact ⟨n, h1, by omega, rc_low (lo := lo) (fun k hk => h k (by omega)) P n h2 h3⟩
theorem DQ_keep {s t : bi_St} {lo lo' : Nat} {D : List (Lp × Bool)} (h80 : ∀ k, k < lo → st_g t 80 k = st_g s 80 k) (hl : lo ≤ lo') (h : ∀ c k, 103 ≤ c → c ≤ 105 → k < D.length → st_g t c k = st_g s c k) (hD : DQ s lo D) : DQ t lo' D := fun i x hx => by
  have hi := (List.getElem?_eq_some_iff.mp hx).1
  obtain ⟨a1, a2, a3⟩ := hD i x hx
  exact ⟨by rw [h _ _ (by omega) (by omega) hi]; exact ro_keep h80 hl a1, by rw [h _ _ (by omega) (by omega) hi]; exact a2, by rw [h _ _ (by omega) (by omega) hi]; exact a3⟩
set_option maxHeartbeats 1000000 in
theorem ct_condR {X : bi_X} {d : Nat} {K : Int32 → bi_St → Prop} {E : Nat → bi_St → Prop} {s : bi_St} {B : Nat → Nat} {N C R : Nat} {y1 y2 : Int32} (hCR : C ≤ 4 ∧ R ≤ 6)
    (kF : ∀ e t, cnd B N C R 5 0 [] = .inl e → fh wQf s t → st_g t 77 0 = 0 → st_g t 77 2 = 0 → st_g t 77 4 = zI e.2 → st_g t 79 0 = st_g s 79 0 + 1 → K (zI e.1) t)
    (kT : ∀ D t, cnd B N C R 5 0 [] = .inr D → D.length ≤ 5 → fh wQs s t → st_g t 77 0 = 0 → st_g t 77 2 = 0 → st_g t 77 4 = -1 → DRr t D → st_g t 77 48 = 1 → cV X (d + 7) 232 [.ref 77, .int y1, .int y2, .int (zI D.length)] t (fun (s44 : bi_St) => cV X (d + 7) 234 [.ref 77] s44 (fun (s45 : bi_St) => cV X (d + 7) 236 [.ref 77] s45 (fun (s46 : bi_St) => K (0 : Int32) s46) (fun _ _ => False)) (fun _ _ => False)) (fun _ _ => False))
    {u : bi_St} (fu : fh wQf s u) (fu2 : fh wQs s u) (hB : RB u B N) (hT : RT u B N 0) (u0 : st_g u 77 0 = 0) (u2 : st_g u 77 2 = 0) (u3 : st_g u 77 3 = 0) (u4 : st_g u 77 4 = -1) (u79 : st_g u 79 0 = st_g s 79 0) (u14 : st_g u 77 14 = zI C) (u15 : st_g u 77 15 = zI R) (u19 : st_g u 77 19 = zI 0) : at_X12_query_93 X (d + 8) K E u y1 y2 0 1 := by
  obtain ⟨r0, hr0⟩ : ∃ r0, cnd B N C R 5 0 [] = r0 := ⟨_, rfl⟩
  rw [hr0] at kF kT
  have b257 : ∀ v e y4, r0 = .inl e → fh wQf s v → st_g v 77 0 = 0 → st_g v 77 2 = 0 → st_g v 79 0 = st_g s 79 0 → st_g v 77 3 = zI e.1 → st_g v 77 4 = zI e.2 → 1 ≤ e.1 → e.1 ≤ 3 → at_X12_query_257 X (d + 8) K E v y1 y2 y4 := by
    intro v e y4 hr fv v0 v2 v79 v3 v4 e1 e3
    refine go_X12_query_257 (ct_isGoodN (by rw [v3]; exact nz3 e1 e3) ⟨fun z => absurd rfl z, fun _ => ⟨rfl, rfl, ?_⟩⟩)
    rw [show ((0 : Int32)).toNatClampNeg = 0 from rfl, g_p_a (by omega), v3, v79]
    exact kF e _ hr (fv.p (by unfold wQf; omega)) (by rw [g_p_a (by omega)]; exact v0) (by rw [g_p_a (by omega)]; exact v2) (by rw [g_p_a (by omega)]; exact v4) (g_p_eq _ _ _ _)
  have b238 : ∀ v e y4, r0 = .inl e → fh wQf s v → st_g v 77 0 = 0 → st_g v 77 2 = 0 → st_g v 79 0 = st_g s 79 0 → st_g v 77 3 = zI e.1 → st_g v 77 4 = zI e.2 → 1 ≤ e.1 → e.1 ≤ 3 → at_X12_query_238 X (d + 8) K E v y1 y2 y4 := fun v e y4 hr fv v0 v2 v79 v3 v4 e1 e3 =>
    go_X12_query_238 (ct_isGoodN (by rw [v3]; exact nz3 e1 e3) ⟨fun _ => b257 v e y4 hr fv v0 v2 v79 v3 v4 e1 e3, fun z => absurd rfl z⟩)
  have b93 : ∀ v e y4 y5, r0 = .inl e → fh wQf s v → st_g v 77 0 = 0 → st_g v 77 2 = 0 → st_g v 79 0 = st_g s 79 0 → st_g v 77 3 = zI e.1 → st_g v 77 4 = zI e.2 → 1 ≤ e.1 → e.1 ≤ 3 → at_X12_query_93 X (d + 8) K E v y1 y2 y4 y5 := fun v e y4 y5 hr fv v0 v2 v79 v3 v4 e1 e3 =>
    go_X12_query_93 ⟨fun _ => b238 v e y4 hr fv v0 v2 v79 v3 v4 e1 e3, fun _ => ct_isGoodN (by rw [v3]; exact nz3 e1 e3) ⟨fun _ => b238 v e y4 hr fv v0 v2 v79 v3 v4 e1 e3, fun z => absurd rfl z⟩⟩
  -- the good end
  have e257 : ∀ v D lo q, r0 = .inr D → D.length ≤ 5 → 2 * lo ≤ 3 * q + 3 → q ≤ N → N ≤ 700 → fh wQs s v → st_g v 77 0 = 0 → st_g v 77 2 = 0 → st_g v 77 3 = 0 → st_g v 77 4 = -1 → DQ v lo D → at_X12_query_257 X (d + 8) K E v y1 y2 (zI D.length) := by
    intro v D lo q hr hD5 hlo hq hN fv v0 v2 v3 v4 hD
    refine go_X12_query_257 (ct_isGoodY v3 ⟨fun _ => ?_, fun z => absurd (by decide) z⟩)
    refine ct_copies (n := 1400) (fun _ => rfl) (fun _ => rfl) rfl rfl (by omega) (by omega) (fun w1 f1 c1 => ?_)
    refine ct_copies (n := 5) (fun _ => rfl) (fun _ => rfl) rfl rfl (by omega) (by omega) (fun w2 f2 c2 => ?_)
    refine ct_copies (n := 5) (fun _ => rfl) (fun _ => rfl) rfl rfl (by omega) (by omega) (fun w3 f3 c3 => ?_)
    refine ct_copies (n := 5) (fun _ => rfl) (fun _ => rfl) rfl rfl (by omega) (by omega) (fun w4 f4 c4 => ?_)
    have g4 : ∀ c k, c ≠ 88 → c ≠ 98 → c ≠ 99 → c ≠ 100 → st_g w4 c k = st_g v c k := fun c k h1 h2 h3 h4 => by rw [f4.g h4, f3.g h3, f2.g h2, f1.g h1]
    have k88 : ∀ k, k < 1400 → st_g w4 88 k = st_g v 80 k := fun k hk => by rw [f4.g (by omega), f3.g (by omega), f2.g (by omega), c1 k hk]
    have k98 : ∀ k, k < 5 → st_g w4 98 k = st_g v 103 k := fun k hk => by rw [f4.g (by omega), f3.g (by omega), c2 k hk, f1.g (by omega)]
    have k99 : ∀ k, k < 5 → st_g w4 99 k = st_g v 104 k := fun k hk => by rw [f4.g (by omega), c3 k hk, f2.g (by omega), f1.g (by omega)]
    have k100 : ∀ k, k < 5 → st_g w4 100 k = st_g v 105 k := fun k hk => by rw [c4 k hk, f3.g (by omega), f2.g (by omega), f1.g (by omega)]
    have fw : fh wQs s w4 := (((fv.trans (f1.mono (fun c k hh => by unfold wQs; omega))).trans (f2.mono (fun c k hh => by unfold wQs; omega))).trans (f3.mono (fun c k hh => by unfold wQs; omega))).trans (f4.mono (fun c k hh => by unfold wQs; omega))
    have g : ∀ c k, (c ≠ 77 ∨ k ≠ 48) → st_g (st_p w4 77 48 1) c k = st_g w4 c k := fun c k hh => by rw [g_p, if_neg (by omega)]
    refine kT D _ hr hD5 (fw.p (by unfold wQs; omega)) ?_ ?_ ?_ (fun i x hx => ?_) (g_p_eq _ _ _ _)
    · rw [g _ _ (by omega), g4 _ _ (by omega) (by omega) (by omega) (by omega)]; exact v0
    · rw [g _ _ (by omega), g4 _ _ (by omega) (by omega) (by omega) (by omega)]; exact v2
    · rw [g _ _ (by omega), g4 _ _ (by omega) (by omega) (by omega) (by omega)]; exact v4
    · have hi := (List.getElem?_eq_some_iff.mp hx).1
      obtain ⟨a1, a2, a3⟩ := hD i x hx
      exact ⟨by rw [g _ _ (by omega), k98 i (by omega)]; exact rc_roc (by omega) (fun k hk => by rw [g _ _ (by omega), k88 k hk]) a1, by rw [g _ _ (by omega), k99 i (by omega)]; exact a2, by rw [g _ _ (by omega), k100 i (by omega)]; exact a3⟩
  have loop : ∀ n i q D v lo, n + i = 5 → D.length = i → fh wQf s v → fh wQs s v → RB v B N → RT v B N q → 2 * lo ≤ 3 * q → st_g v 77 0 = 0 → st_g v 77 2 = 0 → st_g v 77 3 = 0 → st_g v 77 4 = -1 → st_g v 79 0 = st_g s 79 0 → st_g v 77 14 = zI C → st_g v 77 15 = zI R → st_g v 77 19 = zI lo → DQ v lo D → r0 = cnd B N C R n q D → at_X12_query_93 X (d + 8) K E v y1 y2 (zI i) 1 := by
    intro n
    induction n with
    | zero =>
      intro i q D v lo h1 h2 fv fv2 hBv hTv hlo v0 v2 v3 v4 v79 v14 v15 v19 hD hr
      rw [cnd] at hr
      have hi5 : i = 5 := by omega
      subst hi5
      have hr4 := rK_le (B := B) (N := N) (q := q)
      have e2 : (zI (rK B N q) = 2) ↔ tK B N q = 2 := by rw [← rK_2]; exact zI_eq (b := 2) (by omega) (by omega)
      have e1 : (zI (rK B N q) = 1) ↔ tK B N q = 1 := by rw [← rK_1]; exact zI_eq (b := 1) (by omega) (by omega)
      have bad : ∀ f, f = (if canB B N q then 2 else 1) → cV X (d + 7) 176 [.ref 77, .int (zI f)] v (fun (s24 : bi_St) => at_X12_query_145 X (d + 8) K E s24 y1 y2 (zI 5) 1) (fun _ _ => False) := fun f hf => by
        have hf3 : 1 ≤ f ∧ f ≤ 3 := by rw [hf]; split <;> omega
        have z3 : st_g (st_p (st_p v 77 3 (zI f)) 77 4 (zI (tS B N q))) 77 3 = zI f := by rw [g_p_k (by omega), g_p_eq]
        rw [← hf] at hr
        refine ct_wrong v3 hTv.2.2.2.1 (go_X12_query_145 (ct_isGoodN (by rw [z3]; exact nz3 hf3.1 hf3.2) ⟨fun z => absurd rfl z, fun _ => b93 _ (f, tS B N q) _ _ hr ((fv.p (by unfold wQf; omega)).p (by unfold wQf; omega)) ?_ ?_ ?_ z3 (g_p_eq _ _ _ _) hf3.1 hf3.2⟩))
        · rw [g_p_k (by omega), g_p_k (by omega)]; exact v0
        · rw [g_p_k (by omega), g_p_k (by omega)]; exact v2
        · rw [g_p_a (by omega), g_p_a (by omega)]; exact v79
      refine go_X12_query_93 ⟨fun z => absurd z (by decide), fun _ => ct_isGoodY v3 ⟨fun z => absurd z (by decide), fun _ => ⟨fun z => absurd rfl z, fun _ => ?_⟩⟩⟩
      rw [hTv.2.2.1, e2, e1]
      refine ⟨fun k2 => bad 2 ?_, fun n2 => ⟨fun k1 => bad 2 ?_, fun n1 => ct_isSignR (c := 40) (fun i hi => (hBv.2.2 i hi).1) hTv rfl (by omega) ?_⟩⟩
      · have : canB B N q = true := by unfold canB; rw [decide_eq_true k2]; rfl
        rw [this]; rfl
      · have : canB B N q = true := by unfold canB; rw [decide_eq_true k1]; simp
        rw [this]; rfl
      · rw [b2i_ne0]
        refine ⟨fun z => bad 1 ?_, fun z => bad 2 ?_⟩
        · have z : ¬ tG B N q = 40 := by simpa using z
          have : canB B N q = false := by unfold canB; rw [decide_eq_false n2, decide_eq_false n1, decide_eq_false z]; rfl
          rw [this]; rfl
        · have z : tG B N q = 40 := by simpa using z
          have : canB B N q = true := by unfold canB; rw [decide_eq_true z]; simp
          rw [this]; rfl
    | succ n ih =>
      intro i q D v lo h1 h2 fv fv2 hBv hTv hlo v0 v2 v3 v4 v79 v14 v15 v19 hD hr
      rw [cnd] at hr
      have hN := hBv.1
      have hqN := hTv.1
      have e5 : (zI i = 5) ↔ i = 5 := zI_eq (b := 5) (by omega) (by omega)
      refine go_X12_query_93 ⟨fun z => absurd z (by decide), fun _ => ct_isGoodY v3 ⟨fun z => absurd z (by decide), fun _ => ⟨fun _ => ?_, fun z => absurd (fun y => by have := e5.mp y; omega) z⟩⟩⟩
      refine go_X12_query_145 (ct_isGoodY v3 ⟨fun _ => ?_, fun z => absurd (by decide) z⟩)
      rw [v19, zI_nat (by omega)]
      have g0 : ∀ c k, (c ≠ 103 ∨ k ≠ i) → st_g (st_p v 103 i (zI lo)) c k = st_g v c k := fun c k hh => by rw [g_p, if_neg (by omega)]
      refine ⟨in_zI (by omega) (by omega), ct_expression (d := d) (C := C) (R := R) (r := exr B N C R q) (RB_fr (g0 _ _ (by omega)) (fun k => g0 _ _ (by omega)) hBv) (RT_eq (fun k h1 h2 => g0 _ _ (by omega)) (gl_p _ _ _ _ _ _) hTv) (by rw [g0 _ _ (by omega)]; exact v3) (by rw [g0 _ _ (by omega)]; exact v14) (by rw [g0 _ _ (by omega)]; exact v15) hCR (by rw [g0 _ _ (by omega)]; exact v19) hlo (exr_ok hqN) (fun w f p he f1 f3 hw w3 w4 => ?_) (fun w q' P sil he hE => ?_)⟩
      · rw [he] at hr
        have gw : ∀ c k, (c ≠ 77 ∨ k < 3 ∨ (4 < k ∧ k < 7) ∨ (13 < k ∧ k < 19) ∨ 23 < k) → c ≠ 80 → c ≠ 81 → c ≠ 82 → st_g w c k = st_g (st_p v 103 i (zI lo)) c k := fun c k h1 h2 h3 h4 => hw.g (by
          cases hv : wEb lo c k
          · rfl
          · have := wEb_i hv; omega)
        have fw : fh wQf s w := (fv.p (by unfold wQf; omega)).f hw (fun a q hq => by have := wEb_i hq; unfold wQf; omega) (fun q => by
          cases hv : wEb lo 112 q
          · rfl
          · have := wEb_i hv; omega)
        have fin : ∀ x x', bi_in (zI i) 5 = true ∧ (cI X (d + 7) 177 [.ref 77] (st_p (st_p w 104 i x) 105 i x') (fun (r33 : Int32) (s33 : bi_St) => ((r33 = 0) → at_X12_query_223 X (d + 8) K E s33 y1 y2 (zI i + 1)) ∧ (¬ (r33 = 0) → cI X (d + 7) 178 [.ref 77, .int (44 : Int32)] s33 (fun (r34 : Int32) (s34 : bi_St) => ((r34 = 0) → at_X12_query_223 X (d + 8) K E s34 y1 y2 (zI i + 1)) ∧ (¬ (r34 = 0) → (((1 : Int32) = 0) → at_X12_query_93 X (d + 8) K E s34 y1 y2 (zI i + 1) ((1 : Int32))) ∧ (¬ ((1 : Int32) = 0) → cV X (d + 7) 172 [.ref 77] s34 (fun (s35 : bi_St) => at_X12_query_93 X (d + 8) K E s35 y1 y2 (zI i + 1) ((1 : Int32))) (fun _ _ => False)))) (fun _ _ => False))) (fun _ _ => False)) := by
          intro x x'
          refine ⟨in_zI (by omega) (by omega), ct_isGoodN (by rw [g_p_a (by omega), g_p_a (by omega), w3]; exact nz3 f1 f3) ⟨fun _ => go_X12_query_223 ⟨fun _ => b93 _ (f, p) _ _ hr ((fw.p (by unfold wQf; omega)).p (by unfold wQf; omega)) ?_ ?_ ?_ ?_ ?_ f1 f3, fun z => absurd rfl z⟩, fun z => absurd rfl z⟩⟩
          · rw [g_p_a (by omega), g_p_a (by omega), gw _ _ (by omega) (by omega) (by omega) (by omega), g0 _ _ (by omega)]; exact v0
          · rw [g_p_a (by omega), g_p_a (by omega), gw _ _ (by omega) (by omega) (by omega) (by omega), g0 _ _ (by omega)]; exact v2
          · rw [g_p_a (by omega), g_p_a (by omega), gw _ _ (by omega) (by omega) (by omega) (by omega), g0 _ _ (by omega)]; exact v79
          · rw [g_p_a (by omega), g_p_a (by omega)]; exact w3
          · rw [g_p_a (by omega), g_p_a (by omega)]; exact w4
        exact ⟨in_zI (by omega) (by omega), fun _ => fin _ _, fun _ => fin _ _⟩
      · rw [he] at hr
        simp only at hr
        obtain ⟨hw, hBw, hTw, w3, w19, hrc, w22, w23, hbw⟩ := hE
        have gw : ∀ c k, (c ≠ 77 ∨ k < 7 ∨ (13 < k ∧ k < 19) ∨ 23 < k) → (c ≠ 80 ∨ k < lo) → c ≠ 81 → c ≠ 82 → st_g w c k = st_g (st_p v 103 i (zI lo)) c k := fun c k h1 h2 h3 h4 => hw.g (by
          cases hv : wEx lo c k
          · rfl
          · have := wEx_i hv; omega)
        have fw : fh wQf s w := (fv.p (by unfold wQf; omega)).f hw (fun a q hq => by have := wEx_i hq; unfold wQf; omega) (fun q => wEx_no (by omega) (by omega) (by omega))
        have fw2 : fh wQs s w := (fv2.p (by unfold wQs; omega)).f hw (fun a q hq => by have := wEx_i hq; unfold wQs; omega) (fun q => wEx_no (by omega) (by omega) (by omega))
        have hNw := hTw.1
        have fin : bi_in (zI i) 5 = true ∧ (cI X (d + 7) 177 [.ref 77] (st_p (st_p w 104 i (zI P.length)) 105 i (b2i sil)) (fun (r33 : Int32) (s33 : bi_St) => ((r33 = 0) → at_X12_query_223 X (d + 8) K E s33 y1 y2 (zI i + 1)) ∧ (¬ (r33 = 0) → cI X (d + 7) 178 [.ref 77, .int (44 : Int32)] s33 (fun (r34 : Int32) (s34 : bi_St) => ((r34 = 0) → at_X12_query_223 X (d + 8) K E s34 y1 y2 (zI i + 1)) ∧ (¬ (r34 = 0) → (((1 : Int32) = 0) → at_X12_query_93 X (d + 8) K E s34 y1 y2 (zI i + 1) ((1 : Int32))) ∧ (¬ ((1 : Int32) = 0) → cV X (d + 7) 172 [.ref 77] s34 (fun (s35 : bi_St) => at_X12_query_93 X (d + 8) K E s35 y1 y2 (zI i + 1) ((1 : Int32))) (fun _ _ => False)))) (fun _ _ => False))) (fun _ _ => False)) := by
          have gy : ∀ c k, (c ≠ 104 ∨ k ≠ i) → (c ≠ 105 ∨ k ≠ i) → st_g (st_p (st_p w 104 i (zI P.length)) 105 i (b2i sil)) c k = st_g w c k := fun c k h1 h2 => by rw [g_p, if_neg (by omega), g_p, if_neg (by omega)]
          have y104 : st_g (st_p (st_p w 104 i (zI P.length)) 105 i (b2i sil)) 104 i = zI P.length := by rw [g_p_a (by omega), g_p_eq]
          have y105 : st_g (st_p (st_p w 104 i (zI P.length)) 105 i (b2i sil)) 105 i = b2i sil := g_p_eq _ _ _ _
          have fy : fh wQf s (st_p (st_p w 104 i (zI P.length)) 105 i (b2i sil)) := (fw.p (by unfold wQf; omega)).p (by unfold wQf; omega)
          have fy2 : fh wQs s (st_p (st_p w 104 i (zI P.length)) 105 i (b2i sil)) := (fw2.p (by unfold wQs; omega)).p (by unfold wQs; omega)
          have ly : st_gl (st_p (st_p w 104 i (zI P.length)) 105 i (b2i sil)) 77 13 = st_gl w 77 13 := rfl
          generalize st_p (st_p w 104 i (zI P.length)) 105 i (b2i sil) = y at gy y104 y105 fy fy2 ly
          have gyv : ∀ c k, (c ≠ 77 ∨ k < 7 ∨ (13 < k ∧ k < 19) ∨ 23 < k) → (c ≠ 80 ∨ k < lo) → c ≠ 81 → c ≠ 82 → (c < 103 ∨ 105 < c ∨ k ≠ i) → st_g y c k = st_g v c k := fun c k h1 h2 h3 h4 h5 => by rw [gy _ _ (by omega) (by omega), gw _ _ h1 h2 h3 h4, g0 _ _ (by omega)]
          have hBy : RB y B N := RB_fr (gy _ _ (by omega) (by omega)) (fun k => gy _ _ (by omega) (by omega)) hBw
          have hTy : RT y B N q' := RT_eq (fun k h1 h2 => gy _ _ (by omega) (by omega)) ly hTw
          have hDy : DQ y (lo + (wds P).length + 1) (D ++ [(P, sil)]) := by
            intro j x hx
            have hj := (List.getElem?_eq_some_iff.mp hx).1
            rw [List.length_append] at hj
            simp only [List.length_cons, List.length_nil] at hj
            by_cases hji : j < D.length
            · rw [List.getElem?_append_left hji] at hx
              exact DQ_keep (t := y) (fun k hk => gyv _ _ (by omega) (by omega) (by omega) (by omega) (by omega)) (by omega) (fun c k h1 h2 h3 => gyv _ _ (by omega) (by omega) (by omega) (by omega) (by omega)) hD j x hx
            · have hje : j = D.length := by omega
              subst hje
              rw [List.getElem?_append_right (Nat.le_refl _), Nat.sub_self, List.getElem?_cons_zero] at hx
              injection hx with hx
              rw [← hx, h2]
              refine ⟨⟨lo, ?_, Nat.lt_succ_self _, rc_fr (fun k => gy _ _ (by omega) (by omega)) _ _ hrc⟩, y104, y105⟩
              rw [gy _ _ (by omega) (by omega), gw _ _ (by omega) (by omega) (by omega) (by omega), g_p_eq]
          have hl2 : (D ++ [(P, sil)]).length = i + 1 := by rw [List.length_append, h2]; rfl
          have y0 : st_g y 77 0 = 0 := by rw [gyv _ _ (by omega) (by omega) (by omega) (by omega) (by omega)]; exact v0
          have y2' : st_g y 77 2 = 0 := by rw [gyv _ _ (by omega) (by omega) (by omega) (by omega) (by omega)]; exact v2
          have y3 : st_g y 77 3 = 0 := by rw [gy _ _ (by omega) (by omega)]; exact w3
          have y4 : st_g y 77 4 = -1 := by rw [gyv _ _ (by omega) (by omega) (by omega) (by omega) (by omega)]; exact v4
          have y79 : st_g y 79 0 = st_g s 79 0 := by rw [gyv _ _ (by omega) (by omega) (by omega) (by omega) (by omega)]; exact v79
          have s223 : ¬ tG B N q' = 44 → at_X12_query_223 X (d + 8) K E y y1 y2 (zI (i + 1)) := fun n44 => by
            have hr4 := rK_le (B := B) (N := N) (q := q')
            have e0 : (zI (rK B N q') = 0) ↔ tK B N q' = 0 := by rw [← rK_0]; exact zI_eq (b := 0) (by omega) (by omega)
            refine go_X12_query_223 ⟨fun _ => go_X12_query_93 ⟨fun _ => go_X12_query_238 (ct_isGoodY y3 ⟨fun z => absurd z (by decide), fun _ => ?_⟩), fun z => absurd rfl z⟩, fun z => absurd rfl z⟩
            rw [hTy.2.2.1, e0]
            refine ⟨fun k0 => ?_, fun n0 => ct_wrong (f := 1) y3 hTy.2.2.2.1 (b257 _ (1, tS B N q') _ ?_ ((fy.p (by unfold wQf; omega)).p (by unfold wQf; omega)) ?_ ?_ ?_ (by rw [g_p_k (by omega), g_p_eq]) (g_p_eq _ _ _ _) (by show 1 ≤ 1; omega) (by show 1 ≤ 3; omega))⟩
            · rw [if_pos k0] at hr
              have := e257 y (D ++ [(P, sil)]) (lo + (wds P).length + 1) q' hr (by omega) (by omega) hNw hN fy2 y0 y2' y3 y4 hDy
              rw [hl2] at this; exact this
            · rw [if_neg n0, if_neg n44] at hr; exact hr
            · rw [g_p_k (by omega), g_p_k (by omega)]; exact y0
            · rw [g_p_k (by omega), g_p_k (by omega)]; exact y2'
            · rw [g_p_a (by omega), g_p_a (by omega)]; exact y79
          rw [zI_add1]
          refine ⟨in_zI (by omega) (by omega), ct_isGoodY y3 ⟨fun z => absurd z (by decide), fun _ => ct_isSignR (c := 44) (fun i hi => (hBy.2.2 i hi).1) hTy rfl (by omega) ?_⟩⟩
          rw [b2i_ne0]
          refine ⟨fun z => s223 (by simpa using z), fun z => ⟨fun y => absurd y (by decide), fun _ => ct_goR hBy hTy (fun t ht hBt hTt => ?_)⟩⟩
          have k44 : tG B N q' = 44 := by simpa using z
          have hk3 := G_K (show tG B N q' ≠ 0 by omega)
          have hadv := tok_adv (B := B) hTy.1 (show tK B N q' ≠ 0 by omega)
          rw [if_neg (by omega), if_pos k44] at hr
          have gt : ∀ c k, (c ≠ 77 ∨ k < 7 ∨ 13 < k) → st_g t c k = st_g y c k := fun c k hh => ht.g (by
            cases hv : wRk c k
            · rfl
            · have := wRk_i hv; omega)
          refine ih (i + 1) (tE B N q') _ t (lo + (wds P).length + 1) (by omega) hl2 (fy.rk ht (fun q h1 h2 => by unfold wQf; omega)) (fy2.rk ht (fun q h1 h2 => by unfold wQs; omega)) hBt hTt (by omega) (by rw [gt _ _ (by omega)]; exact y0) (by rw [gt _ _ (by omega)]; exact y2') (by rw [gt _ _ (by omega)]; exact y3) (by rw [gt _ _ (by omega)]; exact y4) (by rw [gt _ _ (by omega)]; exact y79) ?_ ?_ ?_ (DQ_keep (fun k _ => gt _ _ (by omega)) (Nat.le_refl _) (fun c k h1 h2 _ => gt _ _ (by omega)) hDy) hr
          · rw [gt _ _ (by omega), gyv _ _ (by omega) (by omega) (by omega) (by omega) (by omega)]; exact v14
          · rw [gt _ _ (by omega), gyv _ _ (by omega) (by omega) (by omega) (by omega) (by omega)]; exact v15
          · rw [gt _ _ (by omega), gy _ _ (by omega) (by omega)]; exact w19
        rw [w22, g_p_a (by omega), w23, b2i_ne0]
        refine ⟨in_zI (by omega) (by omega), fun z => ?_, fun z => ?_⟩
        · rw [z] at fin; exact fin
        · have z : sil = true := by simpa using z
          rw [z] at fin; exact fin
  exact loop 5 0 0 [] u 0 rfl rfl fu fu2 hB hT (Nat.zero_le _) u0 u2 u3 u4 u79 u14 u15 u19 (fun i x hx => absurd hx (by simp)) hr0.symm
end RCOND
