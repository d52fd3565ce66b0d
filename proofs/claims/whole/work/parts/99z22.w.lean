/-! ===== calls that write: what both sides owe ===== -/
section WR0
abbrev mH (M : Ms6) : List Sta := M.2.2.1.2.1
abbrev mrf (M : Ms6) : Nat → Int32 := M.2.2.2.2.2.1
def upX (M : Ms6) (S : Sta) (H : List Sta) (rf : Nat → Int32) : Ms6 := (M.1, M.2.1, (S, H, M.2.2.1.2.2), M.2.2.2.1, M.2.2.2.2.1, rf, M.2.2.2.2.2.2)
def kpH (M : Ms6) : List Sta := mSt M :: h39 (mH M).length (mH M)
def rf1 (M : Ms6) (i : Nat) : Int32 := if i = 1 then mrf M 1 + 1 else mrf M i
def rfM (M : Ms6) : Ms6 := upX M (mSt M) (mH M) (rf1 M)
def doM (M : Ms6) (S : Sta) : Ms6 := upX M S (kpH M) (mrf M)
theorem kpH_len {M : Ms6} (h : (mH M).length ≤ 40) : (kpH M).length = m39 (mH M).length + 1 := by
  unfold kpH h39 m39
  rw [List.length_cons]
  by_cases k : (mH M).length < 40
  · rw [if_pos k, if_pos k]
  · rw [if_neg k, if_neg k, List.length_dropLast]; omega
theorem ok_rf {M : Ms6} (h : okM M) : okM (rfM M) := h
theorem ok_up {M : Ms6} {S : Sta} {H : List Sta} {rf : Nat → Int32} (h : okM M) (hS : wfS (mR M) S ∧ onb (mp M) S) (hH : ∀ T, T ∈ H → wfS (mR M) T ∧ onb (mp M) T) : okM (upX M S H rf) := ⟨h.1, ⟨hS, hH⟩, h.2.2.1, h.2.2.2⟩
theorem ok_do {M : Ms6} {S : Sta} (h : okM M) (hS : wfS (mR M) S ∧ onb (mp M) S) : okM (doM M S) := ok_up h hS (fun T hT => by
  unfold kpH at hT
  rcases List.mem_cons.mp hT with e | e
  · rw [e]; exact h.2.1.1
  · refine h.2.1.2 T ?_
    unfold h39 at e
    by_cases k : (mH M).length < 40
    · rw [if_pos k] at e; exact e
    · rw [if_neg k] at e; exact List.dropLast_subset _ e)
/-- the class's scratch and its state a -/
def fsw (a : Nat) (s t : bi_St) : Prop := t.1 = s.1 ∧ (∀ c k, (c < 57 ∨ 64 < c) → wW a c k = false → st_g t c k = st_g s c k) ∧ (∀ i, i ≠ 7 → i ≠ 8 → st_gp t i = st_gp s i) ∧ ∀ k, st_gl t 112 k = st_gl s 112 k
theorem fsc.w {a : Nat} {s t u : bi_St} (ha : a = 31 ∨ a = 37) (h : fsc s t) (k : fr (wY a) t u) : fsw a s u := by
  have hw : ∀ c q, (c < 57 ∨ 64 < c) → wW a c q = false → wY a c q = false := fun c q h1 h2 => by unfold wY; rw [wA_sc c q h1, h2]; rfl
  exact ⟨k.1.trans h.1, fun c q h1 h2 => (k.g (hw c q h1 h2)).trans (h.2.1 c q h1), fun i h1 h2 => (k.2.1 i).trans (h.2.2.1 i h1 h2), fun q => (k.2.2.2 112 q (Or.inl (hw 112 q (by omega) (wW_ne (by omega) (by omega) (by omega) (by omega))))).trans (h.2.2.2 q)⟩
theorem fcl_w {a : Nat} {s t : bi_St} (ha : a = 31 ∨ a = 37) (h : fsw a s t) : fcl 0 s t := ⟨by rw [h.1]; exact ⟨rfl, rfl⟩, fun c q hc => h.2.1 c q (by omega) (wW_ne (by omega) (by omega) (by omega) (by omega)), h.2.2.2⟩
theorem RCl_w {s t : bi_St} {b b' a a' : Nat} {M : Ms6} {S' : Sta} {H' : List Sta} (ho : okM M) (hC : RCl s b b' a a' M) (h : fsw a s t) (hA : HA t a (mC M) H'.length S' H') : RCl t b b' a a' (upX M S' H' (mrf M)) := by
  have hb := isB_r hC.1.2.1.1
  have hb' := isB_r hC.1.2.1.2.1
  have ha := hC.1.2.2.1
  have g4 : ∀ c q, (c = a + 4 ∨ c = a + 5 ∨ (c = a ∧ (q = 6 ∨ q = 7))) → st_g t c q = st_g s c q := fun c q hc => h.2.1 c q (by omega) (by
    cases hv : wW a c q
    · rfl
    · simp only [wW, Bool.or_eq_true, Bool.and_eq_true, Nat.beq_eq] at hv; omega)
  refine RCl_upd ho hC (x' := (S', H', M.2.2.1.2.2)) (fun c k hh => h.2.1 c k (by unfold impC at hh; omega) (by unfold impC at hh; exact wW_ne (by omega) (by omega) (by omega) (by omega))) (fun i hi => h.2.2.1 i (by omega) (by omega)) ⟨hA, ?_, ?_⟩ (fun i hi => by rw [h.2.1 76 i (by omega) (wW_ne (by omega) (by omega) (by omega) (by omega))]; exact hC.2.2.2.2.2.2.2.2.1 i hi)
  · have hW := hC.2.2.2.2.1.2.1
    refine ⟨hW.1, by rw [g4 _ _ (by omega)]; exact hW.2.1, fun i hi => ?_⟩
    obtain ⟨c1, c2, c3, c4, c5⟩ := hW.2.2 i hi
    exact ⟨by rw [g4 _ _ (by omega)]; exact c1, c2, by rw [g4 _ _ (by omega)]; exact c3, c4, by rw [g4 _ _ (by omega)]; exact c5⟩
  · intro i h1 h2
    rw [g4 _ _ (by omega)]; exact hC.2.2.2.2.1.2.2 i h1 h2
theorem RCl_rf {t : bi_St} {b b' a a' : Nat} {M : Ms6} (ho : okM M) (hC : RCl t b b' a a' M) : RCl (st_p t 76 1 (st_g t 76 1 + 1)) b b' a a' (rfM M) := by
  have hb := isB_r hC.1.2.1.1
  have hb' := isB_r hC.1.2.1.2.1
  have ha := hC.1.2.2.1
  refine RCl_upd ho hC (x' := M.2.2.1) (fun c k hh => g_p_a (by unfold impC at hh; omega)) (fun i _ => rfl) (StC_fr (fun c q h1 h2 => g_p_a (by omega)) hC.2.2.2.2.1) (fun i hi => ?_)
  have h1 := hC.2.2.2.2.2.2.2.2.1 1 (by omega)
  have h2 := hC.2.2.2.2.2.2.2.2.1 i hi
  rw [g_p]
  unfold rf1
  by_cases e : i = 1
  · rw [if_pos ⟨rfl, e⟩, if_pos e, h1]
  · rw [if_neg (fun z => e z.2), if_neg e, h2]
theorem CtC_w {X : bi_X} {d j : Nat} {as : List Value} {s : bi_St} {M : Ms6} {o : Ou} {b b' a a' : Nat} (ho : okM M) (hC : RCl s b b' a a' M) (h : ∀ (K : Int32 → bi_St → Prop) (E : Nat → bi_St → Prop), (∀ v t, o = .inr (v, M) → fsc s t → K v t) → (∀ v t, o = .inr (v, rfM M) → fsc s t → K v (st_p t 76 1 (st_g t 76 1 + 1))) → (∀ v t S' H', o = .inr (v, upX M S' H' (mrf M)) → fsw a s t → HA t a (mC M) H'.length S' H' → K v t) → (∀ e c t, o = .inl (e, c) → fsc s t → E e (st_ex t)) → cI X d j as s K E) : CtC X d j as s M o :=
  fun K E kT kF => h K E (fun v t e hf => kT v M t b b' a a' e (fcl_sc hf) (RCl_sc ho hC hf)) (fun v t e hf => kT v (rfM M) _ b b' a a' e ⟨(fcl_sc hf).1, fun c q hc => by rw [g_p_a (by omega)]; exact (fcl_sc hf).2.1 c q hc, (fcl_sc hf).2.2⟩ (RCl_rf ho (RCl_sc ho hC hf))) (fun v t S' H' e hf hA => kT v _ t b b' a a' e (fcl_w hC.1.2.2.1 hf) (RCl_w ho hC hf hA)) (fun e c t eo hf => kF e c (st_ex t) b b' a a' eo (fcl_ex hf) (RCl_ex ho (RCl_sc ho hC hf)))
/-- what a write of the reference leaves -/
def fsx (s t : bi_St) : Prop := frr s t ∧ ∀ c k, (impR c k ∨ (c = 77 ∧ k = 62) ∨ c = 106 ∨ c = 79) → st_g t c k = st_g s c k
theorem fsx_of {s t : bi_St} (h : fsr s t) : fsx s t := ⟨h.1, fun c k hh => h.2 c k (by unfold impR at hh ⊢; unfold impS; omega)⟩
theorem fsx.f {V : Nat → Nat → Bool} {s t u : bi_St} (h : fsx s t) (k : fr V t u) (hv : ∀ c q, (c < 77 ∨ impR c q ∨ (c = 77 ∧ q = 62) ∨ c = 106 ∨ c = 79 ∨ c = 112) → V c q = false) : fsx s u :=
  ⟨h.1.trans ⟨k.1, fun c q hc => k.g (hv c q (Or.inl hc)), fun i => k.2.1 i, fun q => k.2.2.2 112 q (Or.inl (hv 112 q (by omega)))⟩, fun c q hc => (k.g (hv c q (by unfold impR at hc ⊢; omega))).trans (h.2 c q hc)⟩
theorem fsx.p {s t : bi_St} {k : Nat} {v : Int32} (h : fsx s t) : fsx s (st_p t 90 k v) :=
  ⟨h.1.trans ⟨rfl, fun c q hc => g_p_a (by omega), fun _ => rfl, fun _ => rfl⟩, fun c q hc => by rw [g_p_a (by unfold impR at hc; omega)]; exact h.2 c q hc⟩
theorem RRf_w {s t : bi_St} {M : Ms6} {S' : Sta} {H' : List Sta} (ho : okM M) (hR : RRf s M) (h : fsx s t) (hS : SR t 0 (mC M) S') (h40 : st_g t 77 40 = zI H'.length) (hA : AR (mC M) t 91 H'.length H') : RRf t (upX M S' H' (mrf M)) :=
  RRf_upd ho hR (x' := (S', H', M.2.2.1.2.2)) (fun c k hh => h.2 c k (Or.inl hh)) ⟨hS, hA, h40, WR_fr (h.2 _ _ (by omega)) (fun k => h.2 _ _ (by omega)) hR.2.2.1.2.2.2⟩ (fun i hi => by rw [h.2 79 i (by omega)]; exact hR.2.2.2.2.2.1 i hi)
theorem RRf_rf {t : bi_St} {M : Ms6} (ho : okM M) (hR : RRf t M) : RRf (st_p t 79 1 (st_g t 79 1 + 1)) (rfM M) := by
  refine RRf_upd ho hR (x' := M.2.2.1) (fun c k hh => g_p_a (by unfold impR at hh; omega)) (StR_fr ho.1.1.2 (g_p_a (by omega)) (g_p_a (by omega)) (fun k _ => g_p_a (by omega)) (fun c k hc => g_p_a (by omega)) hR.2.2.1) (fun i hi => ?_)
  have h1 := hR.2.2.2.2.2.1 1 (by omega)
  have h2 := hR.2.2.2.2.2.1 i hi
  rw [g_p]
  unfold rf1
  by_cases e : i = 1
  · rw [if_pos ⟨rfl, e⟩, if_pos e, h1]
  · rw [if_neg (fun z => e z.2), if_neg e, h2]
theorem CtR_w {X : bi_X} {d j : Nat} {as : List Value} {s : bi_St} {M : Ms6} {o : Ou} (ho : okM M) (hR : RRf s M) (h : ∀ (K : Int32 → bi_St → Prop), (∀ v t, o = .inr (v, M) → fsr s t → st_g t 77 0 = 0 → K v t) → (∀ v t, o = .inr (v, rfM M) → fsr s t → st_g t 77 0 = 0 → K v (st_p t 79 1 (st_g t 79 1 + 1))) → (∀ v t S' H', o = .inr (v, upX M S' H' (mrf M)) → fsx s t → st_g t 77 0 = 0 → SR t 0 (mC M) S' → st_g t 77 40 = zI H'.length → AR (mC M) t 91 H'.length H' → K v t) → (∀ e c v t, o = .inl (e, c) → fsr s t → st_g t 77 0 = zI c → K v t) → cI X d j as s K (fun _ _ => False)) : CtR X d j as s M o :=
  fun K kT kF => h K (fun v t e hf h0 => kT v M t e hf.1 h0 (RRf_sr ho hR hf)) (fun v t e hf h0 => kT v (rfM M) _ e (hf.1.trans ⟨rfl, fun c q hc => g_p_a (by omega), fun _ => rfl, fun _ => rfl⟩) (by rw [g_p_a (by omega)]; exact h0) (RRf_rf ho (RRf_sr ho hR hf))) (fun v t S' H' e hf h0 hS h40 hA => kT v _ t e hf.1 h0 (RRf_w ho hR hf hS h40 hA)) (fun e c v t eo hf h0 => kF e c v t eo hf.1 h0 (RRf_sr ho hR hf))
section V
variable {X : bi_X} {d : Nat} {s : bi_St} {M : Ms6} {b b' a a' : Nat} {x y z : Int32}
theorem HA_sc {t : bi_St} (hC : RCl s b b' a a' M) (k : fsc s t) : HA t a (mC M) (mH M).length (mSt M) (mH M) := HA_fr (fun c q h1 h2 => k.2.1 c q (by have := hC.1.2.2.1; omega)) hC.2.2.2.2.1.1
theorem len40 (hC : RCl s b b' a a' M) : (mH M).length ≤ 40 := hC.2.2.2.2.1.1.2.1
theorem ct_refuses {K : Int32 → bi_St → Prop} {E : Nat → bi_St → Prop} (k : K (-1) (st_p s 79 1 (st_g s 79 1 + 1))) : cI X d 205 [.ref 77, .int (1 : Int32)] s K E := en_X12_refuses ⟨rfl, rfl, k⟩
theorem ct_isNumR {K : Int32 → bi_St → Prop} {E : Nat → bi_St → Prop} (k : K (b2i (nmb x)) s) : cI X (d + 1) 240 [.ref 77, .int x] s K E := by
  unfold nmb at k
  refine en_X12_isNumber (en_X12_within ⟨fun h => ⟨rfl, ?_⟩, fun h => ⟨fun h2 => ⟨rfl, ?_⟩, fun h2 => ⟨rfl, ?_⟩⟩⟩)
  · rw [decide_eq_false (fun z => z h)] at k; exact k
  · rw [decide_eq_false (fun z : ¬ (99 : Int32) < x => z h2), Bool.and_false] at k; exact k
  · rw [decide_eq_true h, decide_eq_true h2] at k; exact k
/-- what keeping may change -/
def wKp (c k : Nat) : Bool := Nat.beq c 91 || (Nat.beq c 77 && Nat.beq k 40)
theorem wKp_sx : ∀ c q, (c < 77 ∨ impR c q ∨ (c = 77 ∧ q = 62) ∨ c = 106 ∨ c = 79 ∨ c = 112) → wKp c q = false := fun c q h => by
  cases hv : wKp c q
  · rfl
  · simp only [wKp, Bool.or_eq_true, Bool.and_eq_true, Nat.beq_eq] at hv; unfold impR at h; omega
theorem wF_sx : ∀ c q, (c < 77 ∨ impR c q ∨ (c = 77 ∧ q = 62) ∨ c = 106 ∨ c = 79 ∨ c = 112) → wF c q = false := fun c q h => wF_sr c q (by unfold impR at h ⊢; unfold impS; omega)
theorem wX_sx {b0 : Nat} : ∀ c q, (c < 77 ∨ impR c q ∨ (c = 77 ∧ q = 62) ∨ c = 106 ∨ c = 79 ∨ c = 112) → wX b0 c q = false := fun c q h => by
  unfold wX
  rw [wF_sx c q h, beq_ne (show c ≠ 90 by unfold impR at h; omega)]; rfl
theorem ct_keepsM {K : bi_St → Prop} {E : Nat → bi_St → Prop} {t : bi_St} (ho : okM M) (hR : RRf s M) (f : fsr s t) (h0 : st_g t 77 0 = 0) (hm : (mH M).length ≤ 40) (k : ∀ u, fr wKp t u → fsx s u → st_g u 77 0 = 0 → SR u 0 (mC M) (mSt M) → st_g u 77 40 = zI (kpH M).length → AR (mC M) u 91 (kpH M).length (kpH M) → K u) : cV X d 204 [.ref 77] t K E := by
  have hT := RRf_sr ho hR f
  refine ct_keeps ho.1.1.2 hm hT.2.2.1.2.2.1 hT.2.2.1.1 hT.2.2.1.2.1 (fun u hu h40 hA => ?_)
  have hu : fr wKp t u := hu
  rw [← kpH_len hm] at h40 hA
  exact k u hu ((fsx_of f).f hu wKp_sx) (fr0 hu rfl h0) (SR_fr (fun q _ _ => hu.g rfl) ho.1.1.2 hT.2.2.1.1) h40 hA
end V
end WR0
