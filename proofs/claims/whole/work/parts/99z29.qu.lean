/-! ===== query: the class ===== -/
section QUERY
def qL (M : Ms6) (u : Nat) (tgt : Int32) (D : List (Lp × Bool)) : List Sp := srt 72 (lay0 (mp M) (mf M) (mSt M) (mw M) u tgt D)
def qT (M : Ms6) (u : Nat) (tgt : Int32) : Nat := tasF (chn (mw M) 3 tgt u) u
def qZ (M : Ms6) (u : Nat) (tgt : Int32) (D : List (Lp × Bool)) : Int32 × Zq := qA (mSt M) (reads (mp M) (mf M) (mSt M) (qT M u tgt)) (qL M u tgt D) (mn M) 0 0 z0
def qP (M : Ms6) (u : Nat) (tgt : Int32) (D : List (Lp × Bool)) : Pn := (qL M u tgt D, qT M u tgt, qans (qZ M u tgt D), (qZ M u tgt D).2)
def quM (M : Ms6) (u : Nat) (tgt : Int32) (D : List (Lp × Bool)) : Ms6 := ((M.1.1, 0), M.2.1, M.2.2.1, M.2.2.2.1, some (qP M u tgt D), mrf M, -1)
def queO (M : Ms6) (u : Nat) (tgt : Int32) (r : Fl (List (Lp × Bool))) : Ou := match r with
  | .inl e => .inr (zI e.1, flM M e)
  | .inr D => .inr (0, quM M u tgt D)
def tgO (M : Ms6) (y : Int32) : Bool := decide (y = -1) || nIn y (mv M)
noncomputable def oQuery (M : Ms6) (x y z : Int32) : Ou := if nIn x (mR M) = true then (if tgO M y = true then (if nIn z (M.1.2 + 1) = true then queO M (nX x) y (cnd M.1.1 (nX z) (mC M) (mR M) 5 0 []) else .inl (101, 2)) else .inl (100, 1)) else .inl (100, 1)
/-- what the reference needs of the conditions -/
def okD (C : Nat) (D : List (Lp × Bool)) : Prop := ∀ (i : Nat) (x : Lp × Bool), D[i]? = some x → ok_p C x.1 0 ∧ x.1.length ≤ 700
def okQu (M : Ms6) (x y z : Int32) : Prop := ∀ D, nIn x (mR M) = true → tgO M y = true → nIn z (M.1.2 + 1) = true → cnd M.1.1 (nX z) (mC M) (mR M) 5 0 [] = .inr D → okD (mC M) D
theorem srt_len : ∀ n L, (srt n L).length = L.length := by
  intro n
  induction n with
  | zero => intro L; rfl
  | succ n ih =>
    intro L
    rw [srt]
    cases nx L (L.length - 1) 1 with
    | none => rfl
    | some j => show (srt n (swL L j)).length = _; rw [ih, swL_len]
theorem qA_16 {S : Sta} {g : Nat → Bool} {L : List Sp} {q : Nat} (hq : q < 32) : ∀ n r a z, r + n ≤ 16 → 16 ≤ q → tb a q = false → tb (qA S g L n r a z).1 q = false := by
  intro n
  induction n with
  | zero => intro r a z _ _ h; exact h
  | succ n ih =>
    intro r a z h1 h2 h
    rw [qA]
    by_cases hz : z.2.2.1 = -1
    · rw [if_pos hz]
      refine ih _ _ _ (by omega) h2 ?_
      by_cases hb : (qR S (g r) r L 0 z).1 = true
      · rw [if_pos hb, tb_or, h, tb_s1 (by omega) hq, decide_eq_false (by omega)]; rfl
      · rw [if_neg hb]; exact h
    · rw [if_neg hz]; exact h
theorem tok_y {M : Ms6} {y : Int32} (ho : okM M) (h : tgO M y = true) : tok (mv M) 3 y := by
  have hv3 : mv M ≤ 3 := ho.1.2.2.2.1.1
  unfold tgO at h
  rcases (Bool.or_eq_true _ _).mp h with h | h
  · exact Or.inl (of_decide_eq_true h)
  · obtain ⟨w, hw, e, _⟩ := nIn_y (n := mv M) (by omega) h
    exact Or.inr ⟨w, by omega, hw, e⟩
theorem qL_len {M : Ms6} {u : Nat} {tgt : Int32} {D : List (Lp × Bool)} (hD : D.length ≤ 5) : (qL M u tgt D).length ≤ 9 ∧ (qL M u tgt D).length = (lay0 (mp M) (mf M) (mSt M) (mw M) u tgt D).length ∧ 1 ≤ (lay0 (mp M) (mf M) (mSt M) (mw M) u tgt D).length := by
  have h := lay0_len (p := mp M) (f := mf M) (S := mSt M) (g := mw M) (u := u) (tgt := tgt) (D := D)
  have h2 := chn_len (g := mw M) 3 tgt u
  have h3 : (qL M u tgt D).length = (lay0 (mp M) (mf M) (mSt M) (mw M) u tgt D).length := srt_len 72 _
  omega
theorem okM_qu {M : Ms6} {u : Nat} {tgt : Int32} {D : List (Lp × Bool)} (ho : okM M) (hn : mn M ≤ 16) (hD : D.length ≤ 5) : okM (quM M u tgt D) := by
  refine ⟨ho.1, ho.2.1, ho.2.2.1, (qL_len hD).1, fun q h1 h2 => ?_⟩
  show tb (qans (qZ M u tgt D)) q = false
  unfold qans
  by_cases hz : (qZ M u tgt D).2.2.2.1 = -1
  · rw [if_pos hz]; exact qA_16 h2 _ _ _ _ (by omega) h1 (tb_0 q)
  · rw [if_neg hz, tb_0]
section V
variable {X : bi_X} {d : Nat} {s : bi_St} {M : Ms6} {b b' a a' : Nat} {x y z : Int32}
/-- reading ended without a fault: the tape is empty -/
def m1M (M : Ms6) : Ms6 := ((M.1.1, 0), M.2.1, M.2.2.1, M.2.2.2.1, M.2.2.2.2.1, mrf M, -1)
/-- the class behind a reading of conditions, rf and fault as they are -/
theorem RCl_rd {t : bi_St} {rf : Nat → Int32} {fl : Int32} (ho : okM M) (hC : RCl s b b' a a' M) (g : ∀ c k, ¬ wCd c k → ¬ (c = 1 ∧ k = 1) → ¬ (c = 0 ∧ k = 15) → c ≠ 76 → st_g t c k = st_g s c k) (tp : ∀ i, i ≠ 6 → st_gp t i = st_gp s i) (h11 : st_g t 1 1 = 0) (h76 : ∀ i, i < 3 → st_g t 76 i = rf i) (hf : st_g t 0 15 = fl) : RCl t b b' a a' ((M.1.1, 0), M.2.1, M.2.2.1, M.2.2.2.1, M.2.2.2.2.1, rf, fl) := by
  have hbr := isB_r hC.1.2.1.1
  have hbr' := isB_r hC.1.2.1.2.1
  have ha := hC.1.2.2.1
  have gg : ∀ c k, (c = 0 ∧ k ≠ 15) ∨ (c = 3 ∧ k = 3) ∨ (7 ≤ c ∧ c ≠ 44 ∧ c ≠ 76) → st_g t c k = st_g s c k := fun c k h => g c k (by unfold wCd; omega) (by omega) (by omega) (by omega)
  obtain ⟨hrf, _, ⟨m1, m2, m3⟩, hk, hst, hsp, ⟨l1, l2⟩, ⟨i1, i2⟩, _, _⟩ := hC
  have hpn := ho.2.2.2
  refine ⟨⟨⟨by rw [tp _ (by omega)]; exact hrf.1.1, by rw [tp _ (by omega)]; exact hrf.1.2.1, by rw [tp _ (by omega)]; exact hrf.1.2.2.1, by rw [tp _ (by omega)]; exact hrf.1.2.2.2⟩, hrf.2⟩, ⟨by show 0 ≤ 700; omega, h11, fun i hi => absurd hi (Nat.not_lt_zero i)⟩, ⟨by rw [gg _ _ (by omega)]; exact m1, by rw [gg _ _ (by omega)]; exact m2, by rw [gg _ _ (by omega)]; exact m3⟩, BkC_fr (fun c q h1 h2 => gg _ _ (by omega)) hk, StC_fr (fun c q h1 h2 => gg _ _ (by omega)) hst, StpS_fr (fun i hi => tp _ (by omega)) hsp, ⟨by rw [gg _ _ (by omega)]; exact l1, ?_⟩, ⟨by rw [gg _ _ (by omega)]; exact i1, opt_mono (fun x hx => StC_fr (fun c q h1 h2 => gg _ _ (by omega)) hx) i2⟩, h76, hf⟩
  revert l2 hpn
  show opt (PlC s) M.2.2.2.2.1 → opt okP M.2.2.2.2.1 → opt (PlC t) M.2.2.2.2.1
  cases M.2.2.2.2.1 with
  | none => intro _ _; exact trivial
  | some n => intro hn hl; exact PlC_fr (fun c q hc => gg _ _ (by omega)) (fun i hi => tp _ (by omega)) hl.1 hsp hn
theorem QS_g {t t' : bi_St} {C e : Nat} {x : Sp} (h : ∀ c k, st_g t' c k = st_g t c k) (hq : QS t b C e x) : QS t' b C e x := by
  obtain ⟨c1, c2, c3, c4, c5, c6, c7, c8, c9, c10, c11⟩ := hq
  unfold QS
  simp only [h]
  exact ⟨c1, c2, c3, c4, c5, c6, c7, c8, c9, fun z => rlo_fr (fun c k _ _ => h c k) (c10 z), fun z => rlo_fr (fun c k _ _ => h c k) (c11 z)⟩
/-- the query runs -/
theorem ct_queryRun {K : bi_St → Prop} {E : Nat → bi_St → Prop} {u : Nat} {D : List (Lp × Bool)} (ho : okM M) (hC : RCl s b b' a a' (m1M M)) (hD : DC s (mC M) D) (hu : u < mR M) (hy : tgO M y = true) (k : ∀ t, fcl 0 s t → RCl t b b' a a' (quM M u y D) → K t) :
    cV X (d + 7) 24 [.ref 57, .ref b, .ref a] s (fun (s5 : bi_St) => cV X (d + 7) 40 [.ref 65, .ref 57, .ref 3, .int (zI u), .int y] s5 (fun (s6 : bi_St) => cV X (d + 7) 44 [.ref 65] s6 (fun (s7 : bi_St) => cV X (d + 7) 46 [.ref 65, .ref 57, .ref 3] s7 (fun (s8 : bi_St) => K s8) (fun _ _ => False)) (fun _ _ => False)) (fun _ _ => False)) E := by
  have hR6 : mR M ≤ 6 := ho.1.2.1
  have hbr := isB_r hC.1.2.1.1
  have hbr' := isB_r hC.1.2.1.2.1
  have ha := hC.1.2.2.1
  have ho1 : okM (m1M M) := ho
  have h9 := qL_len (M := M) (u := u) (tgt := y) hD.1
  refine ct_sitJ ho1 hC (fun t ft hJ => ?_)
  have hT := RCl_sc ho1 hC ft
  have hDt : DC t (mC M) D := DC_fr (fun c k h1 h2 => ft.2.1 c k (by omega)) hD
  refine ct_lay hJ hT.2.2.2.1.2.1 hT.2.2.2.1.2.2.1 ho.1.2.2.2.1 hDt (show u < 6 by omega) (tok_y ho hy) hT.2.2.2.2.2.1.1 hT.2.2.2.2.2.1.2 (fun t2 f2 hP2 h78 h651 h652 h658 => ?_)
  have hJ2 := JC_W f2 (fun c k h1 h2 => wLy_lo h1 h2) hJ
  have hQ2 : PQ t2 (QQ t2 b (mC M)) (lay0 (mp M) (mf M) (mSt M) (mw M) u y D) := ⟨hP2.1, hP2.2.1, fun i x hx => ⟨hP2.2.2 i x hx, h78 i (List.getElem?_eq_some_iff.mp hx).1⟩⟩
  refine ct_order (fun e x he hq => QS_ok t2 b (mC M) e x he hq.1) hQ2 (by omega) h9.2.2 h652 (fun t3 f3 hP3 => ?_)
  have hP3 : PQ t3 (QQ t2 b (mC M)) (qL M u y D) := hP3
  have hP3' : PQ t3 (QS t3 b (mC M)) (qL M u y D) := ⟨hP3.1, hP3.2.1, fun i x hx => QS_g f3.2.1 (hP3.2.2 i x hx).1⟩
  have hJ3 : JC t3 b a (mC M) (mR M) (mp M) (mf M) (mSt M) := by
    obtain ⟨j1, j2, j3, j4, j5, j6, j7⟩ := hJ2
    exact ⟨BC_fr (fun c q _ _ => f3.2.1 c q) j1, by rw [f3.2.2.2 _ (by omega)]; exact j2, by rw [f3.2.2.2 _ (by omega)]; exact j3, SC_fr (fun c q _ _ => f3.2.1 c q) j4, by rw [f3.2.1]; exact j5, j6, fun v hv => by rw [f3.2.1]; exact j7 v hv⟩
  refine ct_pass hJ3 hP3' (by omega) (by rw [f3.2.1, h652, h9.2.1]; rfl) (by rw [f3.2.1]; exact h658) (tasF_lt ho.1.2.2.2.1 3 y u (tok_y ho hy) (by omega)) (fun i hi => ?_) (fun t4 f4 hZ h653 => ?_)
  · have hq := hP3.2.2 i _ (List.getElem?_eq_getElem hi)
    rw [f3.2.1, f3.2.1]; exact hq.2
  have hZ : DZ t3 t4 (qL M u y D).length (qZ M u y D).2 := hZ
  have h653 : st_g t4 65 3 = qans (qZ M u y D) := h653
  -- cells that stay
  have g : ∀ c k, c < 57 ∨ c = 76 ∨ 77 ≤ c → st_g t4 c k = st_g t c k := fun c k h => by
    rw [f4.g (by
      cases hv : wP c k
      · rfl
      · simp only [wP, wPn, wA, Bool.or_eq_true, Bool.and_eq_true, Nat.beq_eq, Nat.ble_eq] at hv; omega), f3.2.1, f2.g (by
      cases hv : wLy c k
      · rfl
      · simp only [wLy, wA, Bool.or_eq_true, Bool.and_eq_true, Nat.beq_eq, Nat.ble_eq] at hv; omega)]
  have tp : ∀ i, (i < 10 ∨ 18 < i) → st_gp t4 i = st_gp t i := fun i h => by rw [f4.2.1, f3.2.2.2 i h, f2.2.1]
  have tp3 : ∀ i, st_gp t4 i = st_gp t3 i := fun i => f4.2.1 i
  refine k t4 ⟨by rw [f4.1, f3.1, f2.1, ft.1]; exact ⟨rfl, rfl⟩, fun c q hc => (g c q (by omega)).trans (ft.2.1 c q (by omega)), fun q => ?_⟩ ?_
  · rw [f4.2.2.2 112 q (Or.inl rfl), f3.2.2.1, f2.2.2.2 112 q (Or.inl rfl)]; exact ft.2.2.2 q
  obtain ⟨hrf, ⟨p1, p2, p3⟩, ⟨m1, m2, m3⟩, hk, hst, hsp, _, ⟨i1, i2⟩, h76, hf⟩ := hT
  have g65 : ∀ q, q ≤ 2 ∨ 8 ≤ q → st_g t4 65 q = st_g t2 65 q := fun q hq => by
    rw [f4.g (by
      cases hv : wP 65 q
      · rfl
      · simp only [wP, wPn, wA, Bool.or_eq_true, Bool.and_eq_true, Nat.beq_eq, Nat.ble_eq] at hv; omega), f3.2.1]
  have gst : ∀ e q, 67 ≤ e → e ≤ 75 → q ≤ 6 → st_g t4 e q = st_g t3 e q := fun e q h1 h2 h3 => f4.g (by
      cases hv : wP e q
      · rfl
      · simp only [wP, wPn, wA, Bool.or_eq_true, Bool.and_eq_true, Nat.beq_eq, Nat.ble_eq] at hv; omega)
  refine ⟨⟨⟨by rw [tp _ (by omega)]; exact hrf.1.1, by rw [tp _ (by omega)]; exact hrf.1.2.1, by rw [tp _ (by omega)]; exact hrf.1.2.2.1, by rw [tp _ (by omega)]; exact hrf.1.2.2.2⟩, hrf.2⟩, ⟨p1, by rw [g _ _ (by omega)]; exact p2, fun i hi => ⟨(p3 i hi).1, by rw [g _ _ (by omega)]; exact (p3 i hi).2⟩⟩, ⟨by rw [g _ _ (by omega)]; exact m1, by rw [g _ _ (by omega)]; exact m2, by rw [g _ _ (by omega)]; exact m3⟩, BkC_fr (fun c q h1 h2 => g _ _ (by omega)) hk, StC_fr (fun c q h1 h2 => g _ _ (by omega)) hst, ⟨fun i hi => by rw [tp3]; exact hP3.1 i hi, fun i j hi hj e => hP3.2.1 i j hi hj (by rw [← tp3, ← tp3]; exact e)⟩, ⟨by rw [g65 _ (by omega), h651]; rfl, ⟨⟨by rw [g65 _ (by omega), h652]; exact congrArg zI h9.2.1.symm, h653, hZ.2.1, hZ.2.2.1, hZ.2.2.2.1, hZ.2.2.2.2, by rw [g65 _ (by omega), h658]; rfl⟩, fun i x hx => ?_⟩⟩, ⟨by rw [g _ _ (by omega)]; exact i1, opt_mono (fun x hx => StC_fr (fun c q h1 h2 => g _ _ (by omega)) hx) i2⟩, fun i hi => by rw [g _ _ (by omega)]; exact h76 i hi, by rw [g _ _ (by omega)]; exact hf⟩
  have hx : (qL M u y D)[i]? = some x := hx
  have hi := (List.getElem?_eq_some_iff.mp hx).1
  have hq := hP3'.2.2 i x hx
  have hip := hP3.1 i (by omega)
  have hr : 67 ≤ st_gp t3 (10 + i) ∧ st_gp t3 (10 + i) ≤ 75 := by unfold st_isp at hip; omega
  rw [tp3, gst _ _ hr.1 hr.2 (by omega), gst _ _ hr.1 hr.2 (by omega), gst _ _ hr.1 hr.2 (by omega), gst _ _ hr.1 hr.2 (by omega)]
  have hz := hZ.1 i hi
  exact ⟨hq.2.2.2.1, hq.2.2.2.2.1, hq.2.2.2.2.2.1, hq.2.2.2.2.2.2.2.1, hz.1, hz.2⟩
end V
end QUERY
