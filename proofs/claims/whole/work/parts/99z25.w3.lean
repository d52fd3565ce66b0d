/-! ===== calls that write: see, forget, image, restore, fault ===== -/
section WR3
abbrev mwn (M : Ms6) : Nat := M.2.2.1.2.2.1
abbrev mW (M : Ms6) : Wt := M.2.2.1.2.2.2
def seM (M : Ms6) (n : Nat) (W : Wt) : Ms6 := (M.1, M.2.1, (mSt M, mH M, n, W), M.2.2.2.1, M.2.2.2.2.1, mrf M, M.2.2.2.2.2.2)
def rf2 (M : Ms6) (i : Nat) : Int32 := if i = 2 then mrf M 2 + 1 else mrf M i
def rsM (M : Ms6) : Ms6 := upX M (mSt M) (mH M) (rf2 M)
def addW (W : Wt) (n : Nat) (v : Nat × Nat × Bool) : Wt := fun i => if i = n then v else W i
def oSee (M : Ms6) (x y : Int32) (w : Bool) : Ou := if nIn x (mR M) = true then (if nIn y (mn M) = true then (if mwn M < 8 then .inr (zI (mwn M + 1), seM M (mwn M + 1) (addW (mW M) (mwn M) (nX x, nX y, w))) else .inr (-1, rsM M)) else .inl (100, 1)) else .inl (100, 1)
def foM (M : Ms6) : Ms6 := seM M 0 (mW M)
def imM (M : Ms6) : Ms6 := (M.1, M.2.1, M.2.2.1, some M.2.2.1, M.2.2.2.2.1, mrf M, M.2.2.2.2.2.2)
def resO (M : Ms6) (o : Option Sx) : Ou := match o with
  | none => .inr (0, M)
  | some x => .inr (1, (M.1, M.2.1, x, M.2.2.2.1, M.2.2.2.2.1, mrf M, M.2.2.2.2.2.2))
def oRestore (M : Ms6) : Ou := resO M M.2.2.2.1
def oFault (M : Ms6) : Ou := .inr (M.2.2.2.2.2.2, M)
def CvC (X : bi_X) (d j : Nat) (as : List Value) (s : bi_St) (M' : Ms6) : Prop := ∀ (K : bi_St → Prop) (E : Nat → bi_St → Prop), (∀ t b b' a a', fcl 0 s t → RCl t b b' a a' M' → K t) → cV X d j as s K E
def CvR (X : bi_X) (d j : Nat) (as : List Value) (s : bi_St) (M' : Ms6) : Prop := ∀ (K : bi_St → Prop), (∀ t, frr s t → RRf t M' → K t) → cV X d j as s K (fun _ _ => False)
section V
variable {X : bi_X} {d : Nat} {s : bi_St} {M : Ms6} {b b' a a' : Nat} {x y z : Int32} {w : Bool}
theorem cC_fault (ho : okM M) (hC : RCl s b b' a a' M) : CtC X d 126 [.ref 0] s M (oFault M) := CtC_ro ho hC (fun K E kT kF => en_X11_fault (by rw [hC.2.2.2.2.2.2.2.2.2]; exact kT _ s rfl fsc.refl))
theorem cR_fault (ho : okM M) (hR : RRf s M) : CtR X d 203 [.ref 77] s M (oFault M) := CtR_ro ho hR (fun K kT kF => en_X12_fault (by
  rw [(RRf_sr ho hR (fsr_0 (v := 0))).2.2.2.2.2.2]; exact kT _ _ rfl fsr_0 (g_p_eq _ _ _ _)))
/-- the class's state but what was seen -/
theorem HA_se {t : bi_St} {C m : Nat} {S : Sta} {H : List Sta} (h : ∀ c q, (c = a + 1 ∨ c = a + 2 ∨ c = a + 3 ∨ (c = a ∧ q < 6)) → st_g t c q = st_g s c q) (hh : HA s a C m S H) : HA t a C m S H := by
  obtain ⟨h1, h2, h3, ⟨c1, c2, c3, c4, c5, c6⟩, h5⟩ := hh
  exact ⟨h1, h2, by rw [h _ _ (by omega)]; exact h3, ⟨c1, c2, by rw [h _ _ (by omega)]; exact c3, by rw [h _ _ (by omega)]; exact c4, fun r hr => by rw [h _ _ (by omega)]; exact c5 r hr, fun r c hr hc => by rw [h _ _ (by omega)]; exact c6 r c hr hc⟩, AC_congr h1 _ _ _ (fun i j _ _ => by unfold ae; rw [h _ _ (by omega)]) h5⟩
theorem RCl_st {t : bi_St} {x' : Sx} (ho : okM M) (hC : RCl s b b' a a' M) (hg : ∀ c k, ¬ (a ≤ c ∧ c ≤ a + 5) → st_g t c k = st_g s c k) (hp : ∀ i, st_gp t i = st_gp s i) (hS : StC t a (mC M) x') : RCl t b b' a a' (M.1, M.2.1, x', M.2.2.2.1, M.2.2.2.2.1, mrf M, M.2.2.2.2.2.2) := by
  have hb := isB_r hC.1.2.1.1
  have hb' := isB_r hC.1.2.1.2.1
  have ha := hC.1.2.2.1
  exact RCl_upd ho hC (fun c k hh => hg c k (by unfold impC at hh; omega)) (fun i _ => hp i) hS (fun i hi => by rw [hg _ _ (by omega)]; exact hC.2.2.2.2.2.2.2.2.1 i hi)
theorem cC_forget (ho : okM M) (hC : RCl s b b' a a' M) : CvC X (d + 1) 145 [.ref 0] s (foM M) := fun K E kT => by
  have ha := hC.1.2.2.1
  refine en_X11_forget ?_
  rw [hC.1.1.2.2.1]
  refine ⟨isS_31 ha, en_X6_forgetSeen (isS_31 ha) (kT _ b b' a a' ⟨⟨rfl, rfl⟩, fun c k hc => by rw [g_p_a (by omega), g_p_a (by omega)], fun _ => rfl⟩ (RCl_st (x' := (mSt M, mH M, 0, mW M)) ho hC (fun c k hc => by rw [g_p_a (by omega), g_p_a (by omega)]) (fun _ => rfl) ⟨HA_se (fun c q hc => ?_) hC.2.2.2.2.1.1, ⟨by show 0 ≤ 8; omega, by rw [g_p_k (by omega)]; exact g_p_eq _ _ _ _, fun i hi => absurd hi (Nat.not_lt_zero i)⟩, fun i _ _ => by rw [g_p_eq, tb_0]⟩))⟩
  rcases hc with h | h | h | ⟨h, h2⟩
  · rw [g_p_a (by omega), g_p_a (by omega)]
  · rw [g_p_a (by omega), g_p_a (by omega)]
  · rw [g_p_a (by omega), g_p_a (by omega)]
  · rw [g_p_k (by omega), g_p_k (by omega)]
theorem cR_forget (ho : okM M) (hR : RRf s M) : CvR X d 257 [.ref 77] s (foM M) := fun K kT => by
  refine en_X12_forget (kT _ ⟨rfl, fun c k hc => by rw [g_p_a (by omega), g_p_a (by omega)], fun _ => rfl, fun _ => rfl⟩ ?_)
  have g : ∀ c k, ¬ (c = 77 ∧ (k = 0 ∨ k = 62)) → st_g (st_p (st_p s 77 0 (0 : Int32)) 77 62 (0 : Int32)) c k = st_g s c k := fun c k h => by rw [g_p, if_neg (by omega), g_p, if_neg (by omega)]
  refine RRf_upd ho hR (x' := (mSt M, mH M, 0, mW M)) (fun c k hh => g c k (by unfold impR at hh; omega)) ⟨SR_fr (fun k _ _ => g _ _ (by omega)) ho.1.1.2 hR.2.2.1.1, AR_cp ho.1.1.2 _ _ (fun q _ => g _ _ (by omega)) hR.2.2.1.2.1, by rw [g _ _ (by omega)]; exact hR.2.2.1.2.2.1, ⟨by show 0 ≤ 8; omega, g_p_eq _ _ _ _, fun i hi => absurd hi (Nat.not_lt_zero i)⟩⟩ (fun i hi => by rw [g _ _ (by omega)]; exact hR.2.2.2.2.2.1 i hi)
/-- a state is copied whole -/
theorem ct_copyFrom {K : bi_St → Prop} {E : Nat → bi_St → Prop} {a1 C : Nat} {x : Sx} (ha : st_isS a) (ha1 : st_isS a1) (hne : a1 + 5 < a ∨ a + 5 < a1) (hx : StC s a1 C x) (k : ∀ t, t.1 = s.1 → (∀ i, st_gp t i = st_gp s i) → (∀ c q, ¬ (a ≤ c ∧ c ≤ a + 5) → st_g t c q = st_g s c q) → (∀ c q, st_gl t c q = st_gl s c q) → StC t a C x → K t) : cV X d 72 [.ref a, .ref a1] s K E := by
  refine en_X6_copyFrom ha ha1 ⟨by decide, by decide, by decide, by decide, by decide, ?_⟩
  have n0 : ((0 : Int32)).toNatClampNeg = 0 := rfl
  have n64 : ((64 : Int32)).toNatClampNeg = 64 := rfl
  have n6 : ((6 : Int32)).toNatClampNeg = 6 := rfl
  have n240 : ((240 : Int32)).toNatClampNeg = 240 := rfl
  have n8 : ((8 : Int32)).toNatClampNeg = 8 := rfl
  rw [n0, n64, n6, n240, n8]
  have h1 : ∀ (t : bi_St) q v r, st_g (st_p t a q v) a1 r = st_g t a1 r := fun t q v r => g_p_a (by omega)
  simp only [h1]
  have g : ∀ c q, st_g (st_cp (st_cp (st_cp (st_cp (st_cp (st_p (st_p (st_p (st_p (st_p s a 0 (st_g s a1 0)) a 3 (st_g s a1 3)) a 4 (st_g s a1 4)) a 6 (st_g s a1 6)) a 7 (st_g s a1 7)) (a1 + 1) 0 (a + 1) 0 64) (a1 + 2) 0 (a + 2) 0 6) (a1 + 3) 0 (a + 3) 0 240) (a1 + 4) 0 (a + 4) 0 8) (a1 + 5) 0 (a + 5) 0 8) c q = if c = a then (if q = 0 ∨ q = 3 ∨ q = 4 ∨ q = 6 ∨ q = 7 then st_g s a1 q else st_g s a q) else if (c = a + 1 ∧ q < 64) ∨ (c = a + 2 ∧ q < 6) ∨ (c = a + 3 ∧ q < 240) ∨ (c = a + 4 ∧ q < 8) ∨ (c = a + 5 ∧ q < 8) then st_g s (a1 + (c - a)) q else st_g s c q := fun c q => by
    by_cases e0 : c = a
    · subst e0
      rw [if_pos rfl]
      rw [g_cp, if_neg (by omega), g_cp, if_neg (by omega), g_cp, if_neg (by omega), g_cp, if_neg (by omega), g_cp, if_neg (by omega)]
      simp only [g_p]
      by_cases q7 : q = 7
      · subst q7; simp
      by_cases q6 : q = 6
      · subst q6; simp
      by_cases q4 : q = 4
      · subst q4; simp
      by_cases q3 : q = 3
      · subst q3; simp
      by_cases q0 : q = 0
      · subst q0; simp
      simp [q7, q6, q4, q3, q0]
    rw [if_neg e0]
    have p5 : ∀ c q, c ≠ a → st_g (st_p (st_p (st_p (st_p (st_p s a 0 (st_g s a1 0)) a 3 (st_g s a1 3)) a 4 (st_g s a1 4)) a 6 (st_g s a1 6)) a 7 (st_g s a1 7)) c q = st_g s c q := fun c q h => by rw [g_p_a h, g_p_a h, g_p_a h, g_p_a h, g_p_a h]
    generalize st_p (st_p (st_p (st_p (st_p s a 0 (st_g s a1 0)) a 3 (st_g s a1 3)) a 4 (st_g s a1 4)) a 6 (st_g s a1 6)) a 7 (st_g s a1 7) = t at p5
    by_cases e5 : c = a + 5 ∧ q < 8
    · rw [if_pos (by omega), g_cp, if_pos (by omega), g_cp, if_neg (by omega), g_cp, if_neg (by omega), g_cp, if_neg (by omega), g_cp, if_neg (by omega), p5 _ _ (by omega), show a1 + (c - a) = a1 + 5 by omega, show 0 + (q - 0) = q by omega]
    by_cases e4 : c = a + 4 ∧ q < 8
    · rw [if_pos (by omega), g_cp, if_neg (by omega), g_cp, if_pos (by omega), g_cp, if_neg (by omega), g_cp, if_neg (by omega), g_cp, if_neg (by omega), p5 _ _ (by omega), show a1 + (c - a) = a1 + 4 by omega, show 0 + (q - 0) = q by omega]
    by_cases e3 : c = a + 3 ∧ q < 240
    · rw [if_pos (by omega), g_cp, if_neg (by omega), g_cp, if_neg (by omega), g_cp, if_pos (by omega), g_cp, if_neg (by omega), g_cp, if_neg (by omega), p5 _ _ (by omega), show a1 + (c - a) = a1 + 3 by omega, show 0 + (q - 0) = q by omega]
    by_cases e2 : c = a + 2 ∧ q < 6
    · rw [if_pos (by omega), g_cp, if_neg (by omega), g_cp, if_neg (by omega), g_cp, if_neg (by omega), g_cp, if_pos (by omega), g_cp, if_neg (by omega), p5 _ _ (by omega), show a1 + (c - a) = a1 + 2 by omega, show 0 + (q - 0) = q by omega]
    by_cases e1 : c = a + 1 ∧ q < 64
    · rw [if_pos (by omega), g_cp, if_neg (by omega), g_cp, if_neg (by omega), g_cp, if_neg (by omega), g_cp, if_neg (by omega), g_cp, if_pos (by omega), p5 _ _ (by omega), show a1 + (c - a) = a1 + 1 by omega, show 0 + (q - 0) = q by omega]
    rw [if_neg (by omega), g_cp, if_neg (by omega), g_cp, if_neg (by omega), g_cp, if_neg (by omega), g_cp, if_neg (by omega), g_cp, if_neg (by omega), p5 _ _ e0]
  refine k _ rfl (fun i => rfl) (fun c q hc => by rw [g, if_neg (by omega), if_neg (by omega)]) (fun c q => rfl) ?_
  generalize st_cp (st_cp (st_cp (st_cp (st_cp (st_p (st_p (st_p (st_p (st_p s a 0 (st_g s a1 0)) a 3 (st_g s a1 3)) a 4 (st_g s a1 4)) a 6 (st_g s a1 6)) a 7 (st_g s a1 7)) (a1 + 1) 0 (a + 1) 0 64) (a1 + 2) 0 (a + 2) 0 6) (a1 + 3) 0 (a + 3) 0 240) (a1 + 4) 0 (a + 4) 0 8) (a1 + 5) 0 (a + 5) 0 8 = t at g
  have g0 : ∀ q, (q = 0 ∨ q = 3 ∨ q = 4 ∨ q = 6 ∨ q = 7) → st_g t a q = st_g s a1 q := fun q h => by rw [g, if_pos rfl, if_pos h]
  have gi : ∀ i q, ((i = 1 ∧ q < 64) ∨ (i = 2 ∧ q < 6) ∨ (i = 3 ∧ q < 240) ∨ (i = 4 ∧ q < 8) ∨ (i = 5 ∧ q < 8)) → st_g t (a + i) q = st_g s (a1 + i) q := fun i q h => by rw [g, if_neg (by omega), if_pos (by omega), show a1 + (a + i - a) = a1 + i by omega]
  obtain ⟨⟨k1, k2, k3, ⟨c1, c2, c3, c4, c5, c6⟩, k5⟩, ⟨w1, w2, w3⟩, w4⟩ := hx
  refine ⟨⟨k1, k2, by rw [g0 _ (by omega)]; exact k3, ⟨ha, c2, by rw [g0 _ (by omega)]; exact c3, by rw [g0 _ (by omega)]; exact c4, fun r hr => by rw [gi _ _ (by omega)]; exact c5 r hr, fun r c hr hc => by rw [gi _ _ (by omega)]; exact c6 r c hr hc⟩, AC_congr k1 _ _ _ (fun i j hi hj => by unfold ae; rw [gi _ _ (by omega)]) k5⟩, ⟨w1, by rw [g0 _ (by omega)]; exact w2, fun i hi => ?_⟩, fun i h1 h2 => by rw [g0 _ (by omega)]; exact w4 i h1 h2⟩
  obtain ⟨d1, d2, d3, d4, d5⟩ := w3 i hi
  exact ⟨by rw [gi _ _ (by omega)]; exact d1, d2, by rw [gi _ _ (by omega)]; exact d3, d4, by rw [g0 _ (by omega)]; exact d5⟩
theorem cC_image (ho : okM M) (hC : RCl s b b' a a' M) : CvC X (d + 1) 150 [.ref 0] s (imM M) := fun K E kT => by
  have hb := isB_r hC.1.2.1.1
  have hb' := isB_r hC.1.2.1.2.1
  have ha := hC.1.2.2.1
  refine en_X11_image ?_
  rw [hC.1.1.2.2.1]
  refine ⟨isS_31 ha, ct_copyFrom (show st_isS 51 by unfold st_isS; omega) (isS_31 ha) (by omega) hC.2.2.2.2.1 (fun t t1 tp tg tl hS => kT _ b b' a a' ⟨by rw [show (st_p t 0 14 1).1 = t.1 from rfl, t1]; exact ⟨rfl, rfl⟩, fun c k hc => by rw [g_p_a (by omega)]; exact tg c k (by omega), fun k => tl 112 k⟩ ?_)⟩
  have g : ∀ c k, ¬ (51 ≤ c ∧ c ≤ 56) → ¬ (c = 0 ∧ k = 14) → st_g (st_p t 0 14 1) c k = st_g s c k := fun c k h1 h2 => by rw [g_p, if_neg h2]; exact tg c k h1
  obtain ⟨hrf, ⟨p1, p2, p3⟩, ⟨m1, m2, m3⟩, hk, hst, hsp, ⟨l1, l2⟩, _, h76, hf⟩ := hC
  have hpn := ho.2.2.2
  refine ⟨⟨⟨by rw [show st_gp (st_p t 0 14 1) 0 = st_gp t 0 from rfl, tp]; exact hrf.1.1, by rw [show st_gp (st_p t 0 14 1) 1 = st_gp t 1 from rfl, tp]; exact hrf.1.2.1, by rw [show st_gp (st_p t 0 14 1) 2 = st_gp t 2 from rfl, tp]; exact hrf.1.2.2.1, by rw [show st_gp (st_p t 0 14 1) 3 = st_gp t 3 from rfl, tp]; exact hrf.1.2.2.2⟩, hrf.2⟩, ⟨p1, by rw [g _ _ (by omega) (by omega)]; exact p2, fun i hi => ⟨(p3 i hi).1, by rw [g _ _ (by omega) (by omega)]; exact (p3 i hi).2⟩⟩, ⟨by rw [g _ _ (by omega) (by omega)]; exact m1, by rw [g _ _ (by omega) (by omega)]; exact m2, by rw [g _ _ (by omega) (by omega)]; exact m3⟩, BkC_fr (fun c q h1 h2 => g _ _ (by omega) (by omega)) hk, StC_fr (fun c q h1 h2 => g _ _ (by omega) (by omega)) hst, StpS_fr (fun i hi => tp _) hsp, ⟨by rw [g _ _ (by omega) (by omega)]; exact l1, ?_⟩, ⟨g_p_eq _ _ _ _, StC_fr (fun c q h1 h2 => g_p_a (by omega)) hS⟩, fun i hi => by rw [g _ _ (by omega) (by omega)]; exact h76 i hi, by rw [g _ _ (by omega) (by omega)]; exact hf⟩
  revert l2 hpn
  show opt (PlC s) M.2.2.2.2.1 → opt okP M.2.2.2.2.1 → opt (PlC (st_p t 0 14 1)) M.2.2.2.2.1
  cases M.2.2.2.2.1 with
  | none => intro _ _; exact trivial
  | some n => intro hn hl; exact PlC_fr (fun c q hc => g _ _ (by omega) (by omega)) (fun i hi => tp _) hl.1 hsp hn
theorem cC_restore (ho : okM M) (hC : RCl s b b' a a' M) : CtC X (d + 1) 151 [.ref 0] s M (oRestore M) := fun K E kT kF => by
  have ha := hC.1.2.2.1
  refine en_X11_restore ?_
  have him := hC.2.2.2.2.2.2.2.1
  rw [him.1, hC.1.1.2.2.1]
  cases hi : M.2.2.2.1 with
  | none => exact ⟨fun z => absurd rfl z, fun _ => kT 0 M s b b' a a' (by unfold oRestore; rw [hi]; rfl) (fcl_sc fsc.refl) hC⟩
  | some x =>
    have hx : StC s 51 (mC M) x := by have := him.2; rw [hi] at this; exact this
    refine ⟨fun _ => ⟨isS_31 ha, ct_copyFrom (isS_31 ha) (show st_isS 51 by unfold st_isS; omega) (by omega) hx (fun t t1 tp tg tl hS => kT 1 _ t b b' a a' (by unfold oRestore; rw [hi]; rfl) ⟨by rw [t1]; exact ⟨rfl, rfl⟩, fun c k hc => tg c k (by omega), fun k => tl 112 k⟩ ?_)⟩, fun z => absurd (show ¬ (1 : Int32) = 0 by decide) z⟩
    exact RCl_st (x' := x) ho hC tg tp hS
theorem cR_image (ho : okM M) (hR : RRf s M) (hm : (mH M).length ≤ 40) : CvR X (d + 1) 266 [.ref 77] s (imM M) := fun K kT => by
  have hC4 : mC M ≤ 4 := ho.1.1.2
  refine en_X12_image ?_
  have hS := hR.2.2.1
  have e40 : st_g s 77 40 = zI (mH M).length := hS.2.2.1
  have e62 : st_g s 77 62 = zI (mwn M) := hS.2.2.2.2.1
  let W : Nat → Nat → Prop := fun c k => (c = 77 ∧ (k = 0 ∨ k = 67 ∨ k = 68 ∨ k = 69)) ∨ c = 109 ∨ c = 110 ∨ c = 111
  have a1 : st_g (st_p (st_p s 77 0 (0 : Int32)) 77 67 (1 : Int32)) 77 40 = zI (mH M).length := by rw [g_p_k (by omega), g_p_k (by omega)]; exact e40
  have a2 : st_g (st_p (st_p (st_p s 77 0 (0 : Int32)) 77 67 (1 : Int32)) 77 68 (zI (mH M).length)) 77 62 = zI (mwn M) := by rw [g_p_k (by omega), g_p_k (by omega), g_p_k (by omega)]; exact e62
  rw [a1, a2]
  have f0 : fh W s (st_p (st_p (st_p (st_p s 77 0 (0 : Int32)) 77 67 (1 : Int32)) 77 68 (zI (mH M).length)) 77 69 (zI (mwn M))) := (((fh.refl.p (Or.inl ⟨rfl, by omega⟩)).p (Or.inl ⟨rfl, by omega⟩)).p (Or.inl ⟨rfl, by omega⟩)).p (Or.inl ⟨rfl, by omega⟩)
  have b67 : st_g (st_p (st_p (st_p (st_p s 77 0 (0 : Int32)) 77 67 (1 : Int32)) 77 68 (zI (mH M).length)) 77 69 (zI (mwn M))) 77 67 = 1 := by rw [g_p_k (by omega), g_p_k (by omega)]; exact g_p_eq _ _ _ _
  have b68 : st_g (st_p (st_p (st_p (st_p s 77 0 (0 : Int32)) 77 67 (1 : Int32)) 77 68 (zI (mH M).length)) 77 69 (zI (mwn M))) 77 68 = zI (mH M).length := by rw [g_p_k (by omega)]; exact g_p_eq _ _ _ _
  have b69 : st_g (st_p (st_p (st_p (st_p s 77 0 (0 : Int32)) 77 67 (1 : Int32)) 77 68 (zI (mH M).length)) 77 69 (zI (mwn M))) 77 69 = zI (mwn M) := g_p_eq _ _ _ _
  generalize st_p (st_p (st_p (st_p s 77 0 (0 : Int32)) 77 67 (1 : Int32)) 77 68 (zI (mH M).length)) 77 69 (zI (mwn M)) = u0 at f0 b67 b68 b69
  have loop : ∀ n i t, n + i = 72 → fh W s t → (∀ q, (q = 67 ∨ q = 68 ∨ q = 69) → st_g t 77 q = st_g u0 77 q) → (∀ q, q < i → st_g t 109 q = st_g s 90 q) → at_X12_image_28 X (d + 1) K (fun _ _ => False) t (zI i) := by
    intro n
    induction n with
    | zero =>
      intro i t h1 ft h7 h9
      refine go_X12_image_28 ?_
      rw [show (72 : Int32) = zI 72 from rfl, zI_le (by omega) (by omega)]
      refine ⟨fun _ => ct_copies (n := 2880) (fun _ => rfl) (fun _ => rfl) rfl rfl (by omega) (by omega) (fun t2 f2 c2 => ct_copies (n := 24) (fun _ => rfl) (fun _ => rfl) rfl rfl (by omega) (by omega) (fun t3 f3 c3 => ?_)), fun h => by omega⟩
      have fa : fh W s t3 := (ft.trans (f2.mono (fun c k h => Or.inr (Or.inr (Or.inl h))))).trans (f3.mono (fun c k h => Or.inr (Or.inr (Or.inr h))))
      have g : ∀ c k, ¬ W c k → st_g t3 c k = st_g s c k := fun c k h => fa.g h
      refine kT t3 ⟨fa.1, fun c k hc => g c k (by show ¬ (_ ∨ _); omega), fun i => fa.2.1 i, fun k => fa.2.2.2 k⟩ ?_
      have k7 : ∀ q, (q = 67 ∨ q = 68 ∨ q = 69) → st_g t3 77 q = st_g u0 77 q := fun q hq => by rw [f3.g (by omega), f2.g (by omega)]; exact h7 q hq
      obtain ⟨⟨p1, p2, p3⟩, hk, hst, ⟨l1, l2⟩, _, h79, hf⟩ := hR
      refine ⟨⟨p1, by rw [g _ _ (by show ¬ (_ ∨ _); omega)]; exact p2, fun i hi => ⟨(p3 i hi).1, by rw [g _ _ (by show ¬ (_ ∨ _); omega)]; exact (p3 i hi).2⟩⟩, BkR_fr (fun q h1 h2 => g _ _ (by show ¬ (_ ∨ _); omega)) (fun c q hc => g _ _ (by show ¬ (_ ∨ _); omega)) hk, StR_fr hC4 (g _ _ (by show ¬ (_ ∨ _); omega)) (g _ _ (by show ¬ (_ ∨ _); omega)) (fun k _ => g _ _ (by show ¬ (_ ∨ _); omega)) (fun c k hc => g _ _ (by show ¬ (_ ∨ _); omega)) hst, ⟨by rw [g _ _ (by show ¬ (_ ∨ _); omega)]; exact l1, opt_mono (fun n hn => PlR_fr (fun c q hc => g _ _ (by show ¬ (_ ∨ _); omega)) hn) l2⟩, ⟨by rw [k7 _ (by omega), b67]; rfl, ?_⟩, fun i hi => by rw [g _ _ (by show ¬ (_ ∨ _); omega)]; exact h79 i hi, by rw [g _ _ (by show ¬ (_ ∨ _); omega)]; exact hf⟩
      have hl : M.2.2.1.2.1.length ≤ 40 := hm
      refine ⟨SN_cp (s := s) (w := 90) (b := 0) hC4 (fun q hq => ?_) ((SN_SR (by omega)).mpr hst.1), AR_cp (s := s) (w := 91) hC4 _ _ (fun q hq => ?_) hst.2.1, by rw [k7 _ (by omega)]; exact b68, by rw [k7 _ (by omega)]; exact b69, SeR_fr (s := s) (w := 106) (fun k hk => ?_) ⟨hst.2.2.2.1, hst.2.2.2.2.2⟩⟩
      · rw [f3.g (by omega), f2.g (by omega), Nat.zero_add]; exact h9 q (by omega)
      · rw [f3.g (by omega), c2 q (by omega)]; exact ft.g (by show ¬ (_ ∨ _); omega)
      · rw [c3 k hk, f2.g (by omega)]; exact ft.g (by show ¬ (_ ∨ _); omega)
    | succ n ih =>
      intro i t h1 ft h7 h9
      refine go_X12_image_28 ?_
      rw [show (72 : Int32) = zI 72 from rfl, zI_le (by omega) (by omega), zI_nat (by omega), zI_add1]
      refine ⟨fun h => by omega, fun _ => ⟨in_zI (by omega) (by omega), in_zI (by omega) (by omega), ih (i + 1) _ (by omega) (ft.p (Or.inr (Or.inl rfl))) (fun q hq => by rw [g_p_a (by omega)]; exact h7 q hq) (fun q hq => ?_)⟩⟩
      rw [g_p]
      by_cases e : q = i
      · rw [if_pos ⟨rfl, e⟩, e]; exact ft.g (by show ¬ (_ ∨ _); omega)
      · rw [if_neg (fun z => e z.2)]; exact h9 q (by omega)
  exact loop 72 0 u0 (by omega) f0 (fun _ _ => rfl) (fun q hq => by omega)
theorem cR_restore (ho : okM M) (hR : RRf s M) (h40 : opt (fun x => x.2.1.length ≤ 40) M.2.2.2.1) : CtR X (d + 1) 267 [.ref 77] s M (oRestore M) := fun K kT kF => by
  have hC4 : mC M ≤ 4 := ho.1.1.2
  refine en_X12_restore ?_
  have f0 : fsr s (st_p s 77 0 0) := fsr_0
  have h0 : st_g (st_p s 77 0 0) 77 0 = 0 := g_p_eq _ _ _ _
  have hT := RRf_sr ho hR f0
  generalize st_p s 77 0 (0 : Int32) = t at f0 h0 hT
  have him := hT.2.2.2.2.1
  rw [him.1]
  cases hi : M.2.2.2.1 with
  | none => exact ⟨fun z => absurd rfl z, fun _ => kT 0 M t (by unfold oRestore; rw [hi]; rfl) f0.1 h0 hT⟩
  | some x =>
    have hx : ImR t (mC M) x := by have := him.2; rw [hi] at this; exact this
    refine ⟨fun _ => ?_, fun z => absurd (show ¬ (1 : Int32) = 0 by decide) z⟩
    have hl : x.2.1.length ≤ 40 := by rw [hi] at h40; exact h40
    have a1 : st_g t 77 68 = zI x.2.1.length := hx.2.2.1
    have a2 : st_g (st_p t 77 40 (zI x.2.1.length)) 77 69 = zI x.2.2.1 := by rw [g_p_k (by omega)]; exact hx.2.2.2.1
    rw [a1, a2]
    let W : Nat → Nat → Prop := fun c k => (c = 77 ∧ (k = 40 ∨ k = 62)) ∨ (c = 90 ∧ k < 72) ∨ c = 91 ∨ c = 106
    have w0 : fh W t (st_p (st_p t 77 40 (zI x.2.1.length)) 77 62 (zI x.2.2.1)) := (fh.refl.p (Or.inl ⟨rfl, by omega⟩)).p (Or.inl ⟨rfl, by omega⟩)
    have b40 : st_g (st_p (st_p t 77 40 (zI x.2.1.length)) 77 62 (zI x.2.2.1)) 77 40 = zI x.2.1.length := by rw [g_p_k (by omega)]; exact g_p_eq _ _ _ _
    have b62 : st_g (st_p (st_p t 77 40 (zI x.2.1.length)) 77 62 (zI x.2.2.1)) 77 62 = zI x.2.2.1 := g_p_eq _ _ _ _
    generalize st_p (st_p t 77 40 (zI x.2.1.length)) 77 62 (zI x.2.2.1) = u0 at w0 b40 b62
    have loop : ∀ n i v, n + i = 72 → fh W t v → (∀ q, (q = 40 ∨ q = 62) → st_g v 77 q = st_g u0 77 q) → (∀ q, q < i → st_g v 90 q = st_g t 109 q) → at_X12_restore_32 X (d + 1) K (fun _ _ => False) v (zI i) := by
      intro n
      induction n with
      | zero =>
        intro i v h1 ft h7 h9
        refine go_X12_restore_32 ?_
        rw [show (72 : Int32) = zI 72 from rfl, zI_le (by omega) (by omega)]
        refine ⟨fun _ => ct_copies (n := 2880) (fun _ => rfl) (fun _ => rfl) rfl rfl (by omega) (by omega) (fun t2 f2 c2 => ct_copies (n := 24) (fun _ => rfl) (fun _ => rfl) rfl rfl (by omega) (by omega) (fun t3 f3 c3 => ?_)), fun h => by omega⟩
        have fa : fh W t t3 := (ft.trans (f2.mono (fun c k h => Or.inr (Or.inr (Or.inl h))))).trans (f3.mono (fun c k h => Or.inr (Or.inr (Or.inr h))))
        have g : ∀ c k, ¬ W c k → st_g t3 c k = st_g t c k := fun c k h => fa.g h
        have k7 : ∀ q, (q = 40 ∨ q = 62) → st_g t3 77 q = st_g u0 77 q := fun q hq => by rw [f3.g (by omega), f2.g (by omega)]; exact h7 q hq
        refine kT 1 _ t3 (by unfold oRestore; rw [hi]; rfl) (f0.1.trans ⟨fa.1, fun c k hc => g c k (by show ¬ (_ ∨ _); omega), fun i => fa.2.1 i, fun k => fa.2.2.2 k⟩) (by rw [g _ _ (by show ¬ (_ ∨ _); omega)]; exact h0) ?_
        refine RRf_upd ho hT (x' := x) (fun c k hh => g c k (by unfold impR at hh; show ¬ (_ ∨ _); omega)) ⟨(SN_SR (by omega)).mp (SN_cp (s := t) (w := 109) (b := 0) hC4 (fun q hq => ?_) hx.1), AR_cp (s := t) (w := 110) hC4 _ _ (fun q hq => ?_) hx.2.1, by rw [k7 _ (by omega)]; exact b40, ?_⟩ (fun i hi => by rw [g _ _ (by show ¬ (_ ∨ _); omega)]; exact hT.2.2.2.2.2.1 i hi)
        · rw [f3.g (by omega), f2.g (by omega), Nat.zero_add]; exact h9 q (by omega)
        · rw [f3.g (by omega), c2 q (by omega)]; exact ft.g (by show ¬ (_ ∨ _); omega)
        · have hs : SeR t3 106 x.2.2.1 x.2.2.2 := SeR_fr (s := t) (w := 111) (fun k hk => by rw [c3 k hk, f2.g (by omega)]; exact ft.g (by show ¬ (_ ∨ _); omega)) hx.2.2.2.2
          exact ⟨hs.1, by rw [k7 _ (by omega)]; exact b62, hs.2⟩
      | succ n ih =>
        intro i v h1 ft h7 h9
        refine go_X12_restore_32 ?_
        rw [show (72 : Int32) = zI 72 from rfl, zI_le (by omega) (by omega), zI_nat (by omega), zI_add1]
        refine ⟨fun h => by omega, fun _ => ⟨in_zI (by omega) (by omega), in_zI (by omega) (by omega), ih (i + 1) _ (by omega) (ft.p (Or.inr (Or.inl ⟨rfl, by omega⟩))) (fun q hq => by rw [g_p_a (by omega)]; exact h7 q hq) (fun q hq => ?_)⟩⟩
        rw [g_p]
        by_cases e : q = i
        · rw [if_pos ⟨rfl, e⟩, e]; exact ft.g (by show ¬ (_ ∨ _); omega)
        · rw [if_neg (fun z => e z.2)]; exact h9 q (by omega)
    exact loop 72 0 u0 (by omega) w0 (fun _ _ => rfl) (fun q hq => by omega)
theorem im40 (hC : RCl s b b' a a' M) : opt (fun x => x.2.1.length ≤ 40) M.2.2.2.1 := opt_mono (fun x hx => hx.1.2.1) hC.2.2.2.2.2.2.2.1.2
theorem RCl_rs {t : bi_St} (ho : okM M) (hC : RCl t b b' a a' M) : RCl (st_p t 76 2 (st_g t 76 2 + 1)) b b' a a' (rsM M) := by
  have hb := isB_r hC.1.2.1.1
  have hb' := isB_r hC.1.2.1.2.1
  have ha := hC.1.2.2.1
  refine RCl_upd ho hC (x' := M.2.2.1) (fun c k hh => g_p_a (by unfold impC at hh; omega)) (fun i _ => rfl) (StC_fr (fun c q h1 h2 => g_p_a (by omega)) hC.2.2.2.2.1) (fun i hi => ?_)
  have h1 := hC.2.2.2.2.2.2.2.2.1 2 (by omega)
  have h2 := hC.2.2.2.2.2.2.2.2.1 i hi
  rw [g_p]
  unfold rf2
  by_cases e : i = 2
  · rw [if_pos ⟨rfl, e⟩, if_pos e, h1]
  · rw [if_neg (fun z => e z.2), if_neg e, h2]
theorem RRf_rs {t : bi_St} (ho : okM M) (hR : RRf t M) : RRf (st_p t 79 2 (st_g t 79 2 + 1)) (rsM M) := by
  refine RRf_upd ho hR (x' := M.2.2.1) (fun c k hh => g_p_a (by unfold impR at hh; omega)) (StR_fr ho.1.1.2 (g_p_a (by omega)) (g_p_a (by omega)) (fun k _ => g_p_a (by omega)) (fun c k hc => g_p_a (by omega)) hR.2.2.1) (fun i hi => ?_)
  have h1 := hR.2.2.2.2.2.1 2 (by omega)
  have h2 := hR.2.2.2.2.2.1 i hi
  rw [g_p]
  unfold rf2
  by_cases e : i = 2
  · rw [if_pos ⟨rfl, e⟩, if_pos e, h1]
  · rw [if_neg (fun z => e z.2), if_neg e, h2]
theorem addW_eq {W : Wt} {n : Nat} {v : Nat × Nat × Bool} : addW W n v n = v := if_pos rfl
theorem addW_ne {W : Wt} {n i : Nat} {v : Nat × Nat × Bool} (h : i ≠ n) : addW W n v i = W i := if_neg h
theorem cC_see (ho : okM M) (hC : RCl s b b' a a' M) : CtC X (d + 3) 144 [.ref 0, .int x, .int y, .int (b2i w)] s M (oSee M x y w) := fun K E kT kF => by
  have h16 : mn M ≤ 16 := okN hC
  have hR6 : mR M ≤ 6 := ho.1.2.1
  have ha := hC.1.2.2.1
  have hS := isS_31 ha
  have no : ∀ hno : oSee M x y w = .inl (100, 1), E 100 (st_ex s) := fun hno => kF 100 1 _ b b' a a' hno (fcl_ex fsc.refl) (RCl_ex ho hC)
  refine en_X11_see (ct_needRole hC (fun hx => ct_needRow hC (fun hy => ?_) (fun hy => no (by unfold oSee; rw [ifT hx, ifF hy]))) (fun hx => no (ifF hx)))
  obtain ⟨u, hu, e, enx⟩ := nIn_y (n := mR M) (by omega) hx
  obtain ⟨r, hr, e2, eny⟩ := nIn_y (n := mn M) (by omega) hy
  rw [hC.1.1.2.2.1]
  refine ⟨hS, en_X6_noteSeen hS ?_⟩
  obtain ⟨w1, w2, w3⟩ := hC.2.2.2.2.1.2.1
  have w4 := hC.2.2.2.2.1.2.2
  have w1 : mwn M ≤ 8 := w1
  have w2 : st_g s a 6 = zI (mwn M) := w2
  have w4 : ∀ i, mwn M ≤ i → i < 32 → tb (st_g s a 7) i = false := w4
  have p4 : ∀ (t : bi_St) k v q, st_g (st_p t (a + 4) k v) a q = st_g t a q := fun t k v q => g_p_a (by omega)
  have p5 : ∀ (t : bi_St) k v q, st_g (st_p t (a + 5) k v) a q = st_g t a q := fun t k v q => g_p_a (by omega)
  have p7 : ∀ (t : bi_St) v, st_g (st_p t a 7 v) a 6 = st_g t a 6 := fun t v => g_p_k (by omega)
  simp only [p4, p5, p7, w2]
  rw [show (8 : Int32) = zI 8 from rfl, zI_lt (by omega) (by omega), zI_nat (by omega), zI_add1]
  refine ⟨fun h8 => ⟨in_zI h8 (by omega), in_zI h8 (by omega), ?_⟩, fun h8 => ⟨fun z => absurd trivial z, fun _ => ⟨rfl, rfl, kT _ (rsM M) _ b b' a a' ?_ ⟨⟨rfl, rfl⟩, fun c q hc => g_p_a (by omega), fun _ => rfl⟩ (RCl_rs ho hC)⟩⟩⟩
  · have fin : ∀ v, (∀ i, i < 32 → tb v i = (tb (st_g s a 7) i || (decide (i = mwn M) && w))) → (¬ (1 : Int32) = 0 → st_isS (st_gp (st_p (st_p (st_p (st_p s (a + 4) (mwn M) x) (a + 5) (mwn M) y) a 7 v) a 6 (zI (mwn M + 1))) 2) ∧ K (st_g (st_p (st_p (st_p (st_p s (a + 4) (mwn M) x) (a + 5) (mwn M) y) a 7 v) a 6 (zI (mwn M + 1))) (st_gp (st_p (st_p (st_p (st_p s (a + 4) (mwn M) x) (a + 5) (mwn M) y) a 7 v) a 6 (zI (mwn M + 1))) 2) 6) (st_p (st_p (st_p (st_p s (a + 4) (mwn M) x) (a + 5) (mwn M) y) a 7 v) a 6 (zI (mwn M + 1)))) := fun v hv _ => by
      rw [show st_gp (st_p (st_p (st_p (st_p s (a + 4) (mwn M) x) (a + 5) (mwn M) y) a 7 v) a 6 (zI (mwn M + 1))) 2 = st_gp s 2 from rfl, hC.1.1.2.2.1, g_p_eq]
      refine ⟨hS, kT _ _ _ b b' a a' (by unfold oSee; rw [ifT hx, ifT hy, if_pos h8, enx, eny]; rfl) ⟨⟨rfl, rfl⟩, fun c q hc => by rw [g_p_a (by omega), g_p_a (by omega), g_p_a (by omega), g_p_a (by omega)], fun _ => rfl⟩ (RCl_st (x' := (mSt M, mH M, mwn M + 1, addW (mW M) (mwn M) (u, r, w))) ho hC (fun c q hc => by rw [g_p_a (by omega), g_p_a (by omega), g_p_a (by omega), g_p_a (by omega)]) (fun _ => rfl) ⟨HA_se (fun c q hc => ?_) hC.2.2.2.2.1.1, ⟨h8, g_p_eq _ _ _ _, fun i hi => ?_⟩, fun i h1 h2 => ?_⟩)⟩
      · rcases hc with h | h | h | ⟨h, h2⟩
        · rw [g_p_a (by omega), g_p_a (by omega), g_p_a (by omega), g_p_a (by omega)]
        · rw [g_p_a (by omega), g_p_a (by omega), g_p_a (by omega), g_p_a (by omega)]
        · rw [g_p_a (by omega), g_p_a (by omega), g_p_a (by omega), g_p_a (by omega)]
        · rw [g_p_k (by omega), g_p_k (by omega), g_p_a (by omega), g_p_a (by omega)]
      · rw [g_p_a (show a + 4 ≠ a by omega), g_p_a (show a + 4 ≠ a by omega), g_p_a (show a + 4 ≠ a + 5 by omega), g_p_a (show a + 5 ≠ a by omega), g_p_a (show a + 5 ≠ a by omega), g_p_k (show 7 ≠ 6 by omega), g_p_eq, hv i (by have : i < mwn M + 1 := hi; omega)]
        show _ = zI (addW (mW M) (mwn M) (u, r, w) i).1 ∧ (addW (mW M) (mwn M) (u, r, w) i).1 < 6 ∧ _ = zI (addW (mW M) (mwn M) (u, r, w) i).2.1 ∧ (addW (mW M) (mwn M) (u, r, w) i).2.1 < 16 ∧ _ = (addW (mW M) (mwn M) (u, r, w) i).2.2
        by_cases ei : i = mwn M
        · rw [ei, addW_eq, g_p_eq, g_p_eq, w4 _ (Nat.le_refl _) (by omega), decide_eq_true rfl]
          exact ⟨e, by show u < 6; omega, e2, by show r < 16; omega, by simp⟩
        · rw [addW_ne ei, g_p_k ei, g_p_k ei, g_p_a (by omega), decide_eq_false ei, Bool.false_and, Bool.or_false]
          exact w3 i (show i < mwn M by have : i < mwn M + 1 := hi; omega)
      · rw [g_p_k (show 7 ≠ 6 by omega), g_p_eq, hv i h2, w4 i (by have : mwn M + 1 ≤ i := h1; omega) h2, decide_eq_false (by have : mwn M + 1 ≤ i := h1; omega)]; rfl
    refine ⟨fun hw => ⟨fin _ (fun i hi => ?_), fun z => absurd (show ¬ (1 : Int32) = 0 by decide) z⟩, fun hw => ⟨fin _ (fun i hi => ?_), fun z => absurd (show ¬ (1 : Int32) = 0 by decide) z⟩⟩
    · rw [Int32.or_zero, (b2i_ne0 w).mp hw]; simp
    · rw [show w = true from (Bool.not_eq_false _).mp (fun z => hw (by rw [z]; rfl)), tb_or, show (1 : Int32) <<< (zI (mwn M) &&& 31) = s1 (mwn M) from rfl, tb_s1 (by omega) hi]; simp
  · unfold oSee; rw [ifT hx, ifT hy, if_neg h8]
theorem cR_see (ho : okM M) (hR : RRf s M) : CtR X (d + 3) 256 [.ref 77, .int x, .int y, .int (b2i w)] s M (oSee M x y w) := fun K kT kF => by
  have h16 : mn M ≤ 16 := okNr hR
  have hR6 : mR M ≤ 6 := ho.1.2.1
  have f0 : fsr s (st_p s 77 0 0) := fsr_0
  have h0 : st_g (st_p s 77 0 0) 77 0 = 0 := g_p_eq _ _ _ _
  have hT := RRf_sr ho hR f0
  refine en_X12_see ?_
  generalize st_p s 77 0 (0 : Int32) = t at f0 h0 hT
  have no : oSee M x y w = .inl (100, 1) → at_X12_see_21 X (d + 3) K (fun _ _ => False) (st_p t 77 0 1) := fun e => by
    have f1 : fsr s (st_p t 77 0 1) := f0.p (by omega) (by unfold impR impS; omega)
    exact go_X12_see_21 (kF 100 1 0 _ e f1.1 (g_p_eq _ _ _ _) (RRf_sr ho hR f1))
  refine ct_isRole h0 hT.2.1.2.2.2.2 (fun hx => ⟨fun z => absurd z (by decide), fun _ => ct_isRow h0 hT.2.2.1.1.2.2.1 (fun hy => ⟨fun _ => ?_, fun z => absurd (by decide) z⟩) (fun hy => ⟨fun z => absurd rfl z, fun _ => no (by unfold oSee; rw [ifT hx, ifF hy])⟩)⟩) (fun hx => ⟨fun _ => no (ifF hx), fun z => absurd rfl z⟩)
  obtain ⟨u, hu, e, enx⟩ := nIn_y (n := mR M) (by omega) hx
  obtain ⟨r, hr, e2, eny⟩ := nIn_y (n := mn M) (by omega) hy
  obtain ⟨w1, w2, w3⟩ := hT.2.2.1.2.2.2
  have w1 : mwn M ≤ 8 := w1
  have w2 : st_g t 77 62 = zI (mwn M) := w2
  have p6 : ∀ (v : bi_St) k q, st_g (st_p v 106 k q) 77 62 = st_g v 77 62 := fun v k q => g_p_a (by omega)
  have e3 : (3 : Int32) * zI (mwn M) = zI (3 * mwn M) := zI_mul 3 _
  simp only [p6, w2, g_p_eq, e3, zI_add1, show (2 : Int32) = zI 2 from rfl, zI_add]
  rw [show (8 : Int32) = zI 8 from rfl, zI_eq (by omega) (by omega), zI_nat (by omega), zI_nat (by omega), zI_nat (by omega)]
  refine ⟨fun h8 => ⟨in_zI (by omega) (by omega), in_zI (by omega) (by omega), ?_⟩, fun h8 => ?_⟩
  · have h8 : mwn M < 8 := by omega
    have fin : ∀ v, v = b2i w → K (zI (mwn M + 1)) (st_p (st_p (st_p (st_p t 106 (3 * mwn M) x) 106 (3 * mwn M + 1) y) 106 (3 * mwn M + 2) v) 77 62 (zI (mwn M + 1))) := fun v hv => by
      have g : ∀ c q, c ≠ 106 → ¬ (c = 77 ∧ q = 62) → st_g (st_p (st_p (st_p (st_p t 106 (3 * mwn M) x) 106 (3 * mwn M + 1) y) 106 (3 * mwn M + 2) v) 77 62 (zI (mwn M + 1))) c q = st_g t c q := fun c q h1 h2 => by rw [g_p, if_neg h2, g_p_a h1, g_p_a h1, g_p_a h1]
      refine kT _ _ _ (by unfold oSee; rw [ifT hx, ifT hy, if_pos h8, enx, eny]) (f0.1.trans ⟨rfl, fun c q hc => g c q (by omega) (by omega), fun _ => rfl, fun _ => rfl⟩) (by rw [g _ _ (by omega) (by omega)]; exact h0) ?_
      refine RRf_upd ho hT (x' := (mSt M, mH M, mwn M + 1, addW (mW M) (mwn M) (u, r, w))) (fun c k hh => g c k (by unfold impR at hh; omega) (by unfold impR at hh; omega)) ⟨SR_fr (fun k _ _ => g _ _ (by omega) (by omega)) ho.1.1.2 hT.2.2.1.1, AR_cp ho.1.1.2 _ _ (fun q _ => g _ _ (by omega) (by omega)) hT.2.2.1.2.1, by rw [g _ _ (by omega) (by omega)]; exact hT.2.2.1.2.2.1, ⟨h8, g_p_eq _ _ _ _, fun i hi => ?_⟩⟩ (fun i hi => by rw [g _ _ (by omega) (by omega)]; exact hT.2.2.2.2.2.1 i hi)
      have hi : i < mwn M + 1 := hi
      show _ = zI (addW (mW M) (mwn M) (u, r, w) i).1 ∧ (addW (mW M) (mwn M) (u, r, w) i).1 < 6 ∧ _ = zI (addW (mW M) (mwn M) (u, r, w) i).2.1 ∧ (addW (mW M) (mwn M) (u, r, w) i).2.1 < 16 ∧ _ = b2i (addW (mW M) (mwn M) (u, r, w) i).2.2
      by_cases ei : i = mwn M
      · rw [ei, addW_eq, g_p_a (by omega), g_p_k (by omega), g_p_k (by omega), g_p_eq, g_p_a (by omega), g_p_k (by omega), g_p_eq, g_p_a (by omega), g_p_eq]
        exact ⟨e, by show u < 6; omega, e2, by show r < 16; omega, hv⟩
      · rw [addW_ne ei, g_p_a (by omega), g_p_k (by omega), g_p_k (by omega), g_p_k (by omega), g_p_a (by omega), g_p_k (by omega), g_p_k (by omega), g_p_k (by omega), g_p_a (by omega), g_p_k (by omega), g_p_k (by omega), g_p_k (by omega)]
        exact w3 i (show i < mwn M by omega)
    refine ⟨fun hw => ⟨in_zI (by omega) (by omega), fin _ ?_⟩, fun hw => ⟨in_zI (by omega) (by omega), fin _ ?_⟩⟩
    · rw [(b2i_ne0 w).mp hw]; rfl
    · rw [show w = true from (Bool.not_eq_false _).mp (fun z => hw (by rw [z]; rfl))]; rfl
  · have h8 : mwn M = 8 := Decidable.of_not_not h8
    refine en_X12_refuses ⟨rfl, rfl, kT _ (rsM M) _ (by unfold oSee; rw [ifT hx, ifT hy, if_neg (by omega)]) (f0.1.trans ⟨rfl, fun c q hc => g_p_a (by omega), fun _ => rfl, fun _ => rfl⟩) (by rw [g_p_a (by omega)]; exact h0) (RRf_rs ho hT)⟩
end V
end WR3
