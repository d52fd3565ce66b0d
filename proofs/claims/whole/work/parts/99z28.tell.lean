/-! ===== tell ===== -/
section TELL
def okO (C : Nat) (P : Option Lp) : Prop := match P with
  | none => True
  | some P => ok_p C P 0 ∧ P.length ≤ 700
def okTp (T : Tx) : Prop := (1 ≤ xC T ∧ xC T ≤ 4 ∧ xR T ≤ 6 ∧ xn T ≤ 16 ∧ xp T ≤ 8 ∧ xv T ≤ 3) ∧
  (∀ i, i < xp T → (xf T i).2.2.1 ≤ 4 ∧ ((xf T i).2.1 = -1 ∨ ∃ r, r < 6 ∧ (xf T i).2.1 = zI r) ∧ okO (xC T) (xf T i).2.2.2.1 ∧ okO (xC T) (xf T i).2.2.2.2) ∧
  (∀ w, w < xv T → ((xg T w).1 = -1 ∨ ∃ r, r < 6 ∧ (xg T w).1 = zI r) ∧ ((xg T w).2.2.1 = -1 ∨ ∃ q, q < w ∧ (xg T w).2.2.1 = zI q) ∧ ok_p (xC T) (xg T w).2.2.2.2 0 ∧ (xg T w).2.2.2.2.length ≤ 700) ∧
  (∀ r, xR T ≤ r → r < 6 → xG T r = 0) ∧ ∀ r, r < 6 → sub6 (xG T r)
theorem rl_okp {s : bi_St} {b C n : Nat} {P : Lp} (h : rl s b C n P) : ok_p C P 0 := by
  obtain ⟨_, _, _, _, _, _, _, _, _, h⟩ := h; exact h
theorem prl_ok {s : bi_St} {r C : Nat} {x : Int32} {P : Option Lp} (h : prl s r C x P) : okO C P := by
  cases P with
  | none => exact trivial
  | some P =>
    obtain ⟨n, sil, _, h⟩ := h
    exact ⟨rl_okp h.1, (rl_le h.1).1⟩
theorem CE_ok {s : bi_St} {b a : Nat} {T : Tx} (h : CE s b a T) : okTp T := by
  obtain ⟨_, h1, ⟨hp, hv⟩, _, hA⟩ := h
  refine ⟨h1, fun i hi => ?_, fun w hw => ?_, hA.2.2.1, hA.2.2.2.1⟩
  · obtain ⟨_, _, _, c4, c5, c6, c7⟩ := hp i hi
    exact ⟨c4, c5, prl_ok c6, prl_ok c7⟩
  · obtain ⟨_, _, _, ⟨n, _, hn⟩, c5, c6⟩ := hv w hw
    exact ⟨c5, c6, rl_okp hn.1, (rl_le hn.1).1⟩
def bkT (T : Tx) : Bk := (xC T, xR T, xp T, xf T, xv T, xg T)
def sxT (T : Tx) : Sx := ((xG T, on0 (xp T), xn T, xc T), [], 0, fun _ => (0, 0, false))
def teM (M : Ms6) (T : Tx) : Ms6 := ((M.1.1, 0), bkT T, sxT T, none, none, mrf M, -1)
def rf0 (M : Ms6) (i : Nat) : Int32 := if i = 0 then mrf M 0 + 1 else mrf M i
def flM (M : Ms6) (e : Nat × Nat) : Ms6 := ((M.1.1, 0), M.2.1, M.2.2.1, M.2.2.2.1, M.2.2.2.2.1, rf0 M, zI e.2)
noncomputable def telO (M : Ms6) (r : Fl Tx) : Ou := match r with
  | .inl e => .inr (zI e.1, flM M e)
  | .inr T => .inr (0, teM M T)
noncomputable def oTell (M : Ms6) (x : Int32) : Ou := if nIn x (M.1.2 + 1) = true then telO M (txt M.1.1 (nX x)) else .inl (101, 1)
def okTl (M : Ms6) (x : Int32) : Prop := ∀ T, nIn x (M.1.2 + 1) = true → txt M.1.1 (nX x) = .inr T → okTp T
theorem on0_eq : ∀ p : Fin 9, on0 p.1 = zI (2 ^ p.1 - 1) := by decide
theorem tb_on0 {p i : Nat} (hp : p ≤ 8) (h1 : p ≤ i) (h2 : i < 32) : tb (on0 p) i = false := by
  rw [show on0 p = zI (2 ^ p - 1) from on0_eq ⟨p, by omega⟩]
  exact tb_zI_hi (k := p) (by have := Nat.one_le_two_pow (n := p); omega) h1 h2
theorem okO_len {C : Nat} {P : Option Lp} (h : okO C P) : plen P ≤ 700 := by
  cases P with
  | none => exact Nat.zero_le _
  | some P => exact h.2
theorem okM_te {M : Ms6} {T : Tx} (h : okTp T) : okM (teM M T) := by
  obtain ⟨⟨h1, h2, h3, h4, h5, h6⟩, hp, hv, hz, hs⟩ := h
  refine ⟨⟨⟨h1, h2⟩, h3, h5, ⟨h6, fun w hw => ⟨(hv w hw).1, (hv w hw).2.1⟩⟩, fun i hi => okO_len (hp i hi).2.2.1, fun w hw => (hv w hw).2.2.2⟩, ⟨⟨⟨h3, hs, hz⟩, fun i h1 h2 => tb_on0 h5 h1 h2⟩, fun S hS => absurd hS (List.not_mem_nil)⟩, trivial, trivial⟩
theorem prl_rlo {s : bi_St} {r C : Nat} {x : Int32} {P : Option Lp} (h : prl s r C x P) : rlo s r C x P := by
  cases P with
  | none => exact h
  | some P =>
    obtain ⟨n, sil, e, h⟩ := h
    exact ⟨n, e, h.1⟩
theorem prl_cso {s : bi_St} {r C : Nat} {x : Int32} {P : Option Lp} (h : prl s r C x P) : cso s r x P := by
  intro Q n hQ hx hn
  subst hQ
  obtain ⟨n', sil, e, h⟩ := h
  have h9 := rl_le h.1
  have : n = n' := (zI_eq (by omega) (by omega)).mp (hx.symm.trans e)
  rw [this]; exact h.2.1
theorem CE_Bk {s : bi_St} {b a : Nat} {T : Tx} (hb : st_isB b) (h : CE s b a T) : BkC s b (bkT T) := by
  obtain ⟨⟨e0, e1, e2, e3⟩, ⟨h1, h2, h3, h4, h5, h6⟩, ⟨hp, hv⟩, _, _⟩ := h
  refine ⟨⟨hb, h2, h5, e2, fun i hi => ?_⟩, fun i hi => ?_, ⟨e3, fun w hw => ?_⟩, e0, e1⟩
  · obtain ⟨c1, c2, c3, c4, c5, c6, c7⟩ := hp i hi
    exact ⟨c1, c2, c3, c4, c5, prl_rlo c6, prl_rlo c7⟩
  · obtain ⟨c1, c2, c3, c4, c5, c6, c7⟩ := hp i hi
    exact ⟨prl_cso c6, prl_cso c7⟩
  · obtain ⟨c1, c2, c3, c4, _, _⟩ := hv w hw
    exact ⟨c1, c2, c3, c4⟩
theorem CE_St {s : bi_St} {b a : Nat} {T : Tx} (ha : st_isS a) (h : CE s b a T) : StC s a (xC T) (sxT T) := by
  obtain ⟨_, ⟨h1, h2, h3, h4, h5, h6⟩, _, ⟨_, e3⟩, ⟨a0, a1, _, _, a4, a5, a6, a7⟩⟩ := h
  exact ⟨⟨h2, by show 0 ≤ 40; omega, a5, ⟨ha, h4, a0, e3, a1, a4⟩, rfl⟩, ⟨by show 0 ≤ 8; omega, a6, fun i hi => absurd hi (Nat.not_lt_zero i)⟩, fun i _ _ => by rw [a7, tb_0]⟩
section V
variable {X : bi_X} {d : Nat} {s : bi_St} {M : Ms6} {b b' a a' : Nat} {x : Int32}
theorem nIn_m {m : Nat} (hm : m ≤ 700) (h : ¬ x < 0) (h2 : x ≤ zI m) : nIn x (m + 1) = true := nIn_le (by omega) h h2
theorem cC_tell (ho : okM M) (hC : RCl s b b' a a' M) {K : Int32 → bi_St → Prop} {E : Nat → bi_St → Prop} (kT : ∀ v M' t b b' a a', oTell M x = .inr (v, M') → fcl 0 s t → RCl t b b' a a' M' → okM M' → okTl M x → K v t) (kF : ∀ e c t b b' a a', oTell M x = .inl (e, c) → fcl 1 s t → RCl t b b' a a' M → E e t) : cI X (d + 60) 124 [.ref 0, .int x] s K E := by
  have hbr := isB_r hC.1.2.1.1
  have hbr' := isB_r hC.1.2.1.2.1
  have ha := hC.1.2.2.1
  have ha' := hC.1.2.2.2.1
  have hne := hC.1.2.2.2.2
  have hbne := hC.1.2.1.2.2
  have hB := hC.1.2.1.1
  have hB' := hC.1.2.1.2.1
  have hb2 : (b = 7 ∧ b' = 19) ∨ (b = 19 ∧ b' = 7) := by rcases hB with h | h <;> rcases hB' with h' | h' <;> omega
  have hT := hC.2.1
  have hm := hT.1
  have no : oTell M x = .inl (101, 1) → E 101 (st_ex s) := fun h => kF 101 1 _ b b' a a' h (fcl_ex fsc.refl) (RCl_ex ho hC)
  refine en_X11_tell (en_X11_needBytes ?_)
  rw [hT.2.1]
  refine ⟨fun h => no (ifF (nIn_neg h)), fun h => ⟨fun h2 => ?_, fun h2 => no (ifF (nIn_gt (by omega) h2))⟩⟩
  have hx := nIn_m hm h h2
  obtain ⟨N, hN, e, enx⟩ := nIn_y (by omega) hx
  have hov : ∀ r, txt M.1.1 N = r → oTell M x = telO M r := fun r hr => by unfold oTell; rw [ifT hx, enx, hr]
  rw [hC.1.1.2.1, hC.1.1.2.2.2, e]
  refine ⟨hB', isS_31 ha', ct_readText hB' (isS_31 ha') hm (by omega) hT.2.1 hT.2.2 hC.2.2.1.2.2 (fun er t hr ft t9 t10 e1 e3 => ?_) (fun T t hr ft hCE => ?_)⟩
  · refine en_X11_endReading ⟨fun _ => ⟨fun z => absurd rfl z, fun _ => ⟨rfl, rfl, ⟨fun z => absurd rfl z, fun _ => ?_⟩⟩⟩, fun z => absurd rfl z⟩
    show K (st_g (st_p (st_p (st_p t 1 1 (0 : Int32)) 0 15 (st_g (st_p t 1 1 (0 : Int32)) 1 10)) 76 0 (st_g (st_p (st_p t 1 1 (0 : Int32)) 0 15 (st_g (st_p t 1 1 (0 : Int32)) 1 10)) 76 0 + 1)) 1 9) (st_p (st_p (st_p t 1 1 (0 : Int32)) 0 15 (st_g (st_p t 1 1 (0 : Int32)) 1 10)) 76 0 (st_g (st_p (st_p t 1 1 (0 : Int32)) 0 15 (st_g (st_p t 1 1 (0 : Int32)) 1 10)) 76 0 + 1))
    rw [g_p_k (show 10 ≠ 1 by omega), t10, g_p_a (show 76 ≠ 0 by omega), g_p_a (show 76 ≠ 1 by omega), ft.g (show ¬ wTx b' a' 76 0 by unfold wTx; omega)]
    have g : ∀ c k, ¬ wTx b' a' c k → ¬ (c = 1 ∧ k = 1) → ¬ (c = 0 ∧ k = 15) → ¬ (c = 76 ∧ k = 0) → st_g (st_p (st_p (st_p t 1 1 (0 : Int32)) 0 15 (zI er.2)) 76 0 (st_g (st_pp (st_pp s 4 b') 5 a') 76 0 + 1)) c k = st_g s c k := fun c k h1 h2 h3 h4 => by rw [g_p, if_neg h4, g_p, if_neg h3, g_p, if_neg h2]; exact ft.g h1
    have tp : ∀ i, i ≠ 4 → i ≠ 5 → i ≠ 6 → st_gp (st_p (st_p (st_p t 1 1 (0 : Int32)) 0 15 (zI er.2)) 76 0 (st_g (st_pp (st_pp s 4 b') 5 a') 76 0 + 1)) i = st_gp s i := fun i h1 h2 h3 => by
      show st_gp t i = _
      rw [ft.2.1 i h3, gp_pp, if_neg h2, gp_pp, if_neg h1]
    have g19 : st_g (st_p (st_p (st_p t 1 1 (0 : Int32)) 0 15 (zI er.2)) 76 0 (st_g (st_pp (st_pp s 4 b') 5 a') 76 0 + 1)) 1 9 = zI er.1 := by rw [g_p_a (by omega), g_p_a (by omega), g_p_k (by omega)]; exact t9
    have g11 : st_g (st_p (st_p (st_p t 1 1 (0 : Int32)) 0 15 (zI er.2)) 76 0 (st_g (st_pp (st_pp s 4 b') 5 a') 76 0 + 1)) 1 1 = 0 := by rw [g_p_a (by omega), g_p_a (by omega)]; exact g_p_eq _ _ _ _
    have gf : st_g (st_p (st_p (st_p t 1 1 (0 : Int32)) 0 15 (zI er.2)) 76 0 (st_g (st_pp (st_pp s 4 b') 5 a') 76 0 + 1)) 0 15 = zI er.2 := by rw [g_p_a (by omega)]; exact g_p_eq _ _ _ _
    have g76 : st_g (st_p (st_p (st_p t 1 1 (0 : Int32)) 0 15 (zI er.2)) 76 0 (st_g (st_pp (st_pp s 4 b') 5 a') 76 0 + 1)) 76 0 = st_g s 76 0 + 1 := g_p_eq _ _ _ _
    have gl : ∀ k, st_gl (st_p (st_p (st_p t 1 1 (0 : Int32)) 0 15 (zI er.2)) 76 0 (st_g (st_pp (st_pp s 4 b') 5 a') 76 0 + 1)) 112 k = st_gl s 112 k := fun k => ft.2.2.2 112 k (Or.inr rfl)
    have g1 : (st_p (st_p (st_p t 1 1 (0 : Int32)) 0 15 (zI er.2)) 76 0 (st_g (st_pp (st_pp s 4 b') 5 a') 76 0 + 1)).1 = s.1 := ft.1
    generalize st_p (st_p (st_p t 1 1 (0 : Int32)) 0 15 (zI er.2)) 76 0 (st_g (st_pp (st_pp s 4 b') 5 a') 76 0 + 1) = u at g tp g19 g11 gf g76 gl g1
    rw [g19]
    refine kT _ (flM M er) u b b' a a' (hov _ hr) ⟨by rw [g1]; exact ⟨rfl, rfl⟩, fun c k hc => g c k (by unfold wTx; omega) (by omega) (by omega) (by omega), gl⟩ ?_ ⟨ho.1, ho.2.1, ho.2.2.1, ho.2.2.2⟩ (fun T _ h => by rw [enx, hr] at h; cases h)
    have gg : ∀ c k, (c = 0 ∧ k ≠ 15) ∨ (c = 3) ∨ (b ≤ c ∧ c ≤ b + 11) ∨ (c = b' + 8 ∧ k = 3) ∨ (a ≤ c ∧ c ≤ a + 5) ∨ (51 ≤ c ∧ c ≤ 56) ∨ c = 65 ∨ (67 ≤ c ∧ c ≤ 75) ∨ (c = 76 ∧ k ≠ 0) → st_g u c k = st_g s c k := fun c k h => g c k (by unfold wTx; omega) (by omega) (by omega) (by omega)
    obtain ⟨hrf, _, ⟨m1, m2, m3⟩, hk, hst, hsp, ⟨l1, l2⟩, ⟨i1, i2⟩, h76, hf⟩ := hC
    have hpn := ho.2.2.2
    refine ⟨⟨⟨by rw [tp _ (by omega) (by omega) (by omega)]; exact hrf.1.1, by rw [tp _ (by omega) (by omega) (by omega)]; exact hrf.1.2.1, by rw [tp _ (by omega) (by omega) (by omega)]; exact hrf.1.2.2.1, by rw [tp _ (by omega) (by omega) (by omega)]; exact hrf.1.2.2.2⟩, hrf.2⟩, ⟨by show 0 ≤ 700; omega, g11, fun i hi => absurd hi (Nat.not_lt_zero i)⟩, ⟨by rw [gg _ _ (by omega)]; exact m1, by rw [gg _ _ (by omega)]; exact m2, by rw [gg _ _ (by omega)]; exact m3⟩, BkC_fr (fun c q h1 h2 => gg _ _ (by omega)) hk, StC_fr (fun c q h1 h2 => gg _ _ (by omega)) hst, StpS_fr (fun i hi => tp _ (by omega) (by omega) (by omega)) hsp, ⟨by rw [gg _ _ (by omega)]; exact l1, ?_⟩, ⟨by rw [gg _ _ (by omega)]; exact i1, opt_mono (fun x hx => StC_fr (fun c q h1 h2 => gg _ _ (by omega)) hx) i2⟩, fun i hi => ?_, gf⟩
    · revert l2 hpn
      show opt (PlC s) M.2.2.2.2.1 → opt okP M.2.2.2.2.1 → opt (PlC u) M.2.2.2.2.1
      cases M.2.2.2.2.1 with
      | none => intro _ _; exact trivial
      | some n => intro hn hl; exact PlC_fr (fun c q hc => gg _ _ (by omega)) (fun i hi => tp _ (by omega) (by omega) (by omega)) hl.1 hsp hn
    · show _ = rf0 M i
      unfold rf0
      by_cases ei : i = 0
      · rw [if_pos ei, ei, g76, h76 0 (by omega)]
      · rw [if_neg ei, gg _ _ (by omega)]; exact h76 i hi
  · refine en_X11_endReading ⟨fun z => absurd z (by decide), fun _ => ⟨fun _ => ⟨fun _ => ?_, fun z => absurd (show ¬ (1 : Int32) = 0 by decide) z⟩, fun z => absurd (show ¬ (1 : Int32) = 0 by decide) z⟩⟩
    have q0 : ∀ i, i ≠ 4 → i ≠ 5 → i ≠ 6 → st_gp (st_p (st_p t 1 1 (0 : Int32)) 0 15 (-1 : Int32)) i = st_gp s i := fun i h1 h2 h3 => by
      show st_gp t i = _
      rw [ft.2.1 i h3, gp_pp, if_neg h2, gp_pp, if_neg h1]
    have r0 : st_gp (st_p (st_p t 1 1 (0 : Int32)) 0 15 (-1 : Int32)) 0 = b := (q0 0 (by omega) (by omega) (by omega)).trans hC.1.1.1
    have r1 : st_gp (st_p (st_p t 1 1 (0 : Int32)) 0 15 (-1 : Int32)) 1 = b' := (q0 1 (by omega) (by omega) (by omega)).trans hC.1.1.2.1
    have r2 : st_gp (st_p (st_p t 1 1 (0 : Int32)) 0 15 (-1 : Int32)) 2 = a := (q0 2 (by omega) (by omega) (by omega)).trans hC.1.1.2.2.1
    have r3 : st_gp (st_p (st_p t 1 1 (0 : Int32)) 0 15 (-1 : Int32)) 3 = a' := (q0 3 (by omega) (by omega) (by omega)).trans hC.1.1.2.2.2
    have r22 : st_gp (st_pp (st_pp (st_p (st_p t 1 1 (0 : Int32)) 0 15 (-1 : Int32)) 0 b') 1 b) 2 = a := by rw [gp_pp, if_neg (by omega), gp_pp, if_neg (by omega)]; exact r2
    have r33 : st_gp (st_pp (st_pp (st_p (st_p t 1 1 (0 : Int32)) 0 15 (-1 : Int32)) 0 b') 1 b) 3 = a' := by rw [gp_pp, if_neg (by omega), gp_pp, if_neg (by omega)]; exact r3
    rw [r0, r1, r22, r33]
    refine ⟨hB, hB', isS_31 ha, isS_31 ha', ?_⟩
    have gt : ∀ c k, ¬ (c = 1 ∧ k = 1) → ¬ (c = 0 ∧ (k = 15 ∨ k = 14)) → ¬ (c = 65 ∧ k = 1) → st_g (st_p (st_p (st_pp (st_pp (st_pp (st_pp (st_p (st_p t 1 1 (0 : Int32)) 0 15 (-1 : Int32)) 0 b') 1 b) 2 a') 3 a) 65 1 (0 : Int32)) 0 14 (0 : Int32)) c k = st_g t c k := fun c k h1 h2 h3 => by
      rw [g_p, if_neg (by omega), g_p, if_neg h3]
      show st_g (st_p (st_p t 1 1 (0 : Int32)) 0 15 (-1 : Int32)) c k = _
      rw [g_p, if_neg (by omega), g_p, if_neg h1]
    have up : ∀ i, st_gp (st_p (st_p (st_pp (st_pp (st_pp (st_pp (st_p (st_p t 1 1 (0 : Int32)) 0 15 (-1 : Int32)) 0 b') 1 b) 2 a') 3 a) 65 1 (0 : Int32)) 0 14 (0 : Int32)) i = if i = 3 then a else if i = 2 then a' else if i = 1 then b else if i = 0 then b' else st_gp (st_p (st_p t 1 1 (0 : Int32)) 0 15 (-1 : Int32)) i := fun i => by
      show st_gp (st_pp (st_pp (st_pp (st_pp (st_p (st_p t 1 1 (0 : Int32)) 0 15 (-1 : Int32)) 0 b') 1 b) 2 a') 3 a) i = _
      rw [gp_pp, gp_pp, gp_pp, gp_pp]
    have g11 : st_g (st_p (st_p (st_pp (st_pp (st_pp (st_pp (st_p (st_p t 1 1 (0 : Int32)) 0 15 (-1 : Int32)) 0 b') 1 b) 2 a') 3 a) 65 1 (0 : Int32)) 0 14 (0 : Int32)) 1 1 = 0 := by
      rw [g_p_a (by omega), g_p_a (by omega)]
      show st_g (st_p (st_p t 1 1 (0 : Int32)) 0 15 (-1 : Int32)) 1 1 = 0
      rw [g_p_a (by omega)]; exact g_p_eq _ _ _ _
    have gf : st_g (st_p (st_p (st_pp (st_pp (st_pp (st_pp (st_p (st_p t 1 1 (0 : Int32)) 0 15 (-1 : Int32)) 0 b') 1 b) 2 a') 3 a) 65 1 (0 : Int32)) 0 14 (0 : Int32)) 0 15 = -1 := by
      rw [g_p_k (by omega), g_p_a (by omega)]
      show st_g (st_p (st_p t 1 1 (0 : Int32)) 0 15 (-1 : Int32)) 0 15 = -1
      exact g_p_eq _ _ _ _
    have g14 : st_g (st_p (st_p (st_pp (st_pp (st_pp (st_pp (st_p (st_p t 1 1 (0 : Int32)) 0 15 (-1 : Int32)) 0 b') 1 b) 2 a') 3 a) 65 1 (0 : Int32)) 0 14 (0 : Int32)) 0 14 = 0 := g_p_eq _ _ _ _
    have g65 : st_g (st_p (st_p (st_pp (st_pp (st_pp (st_pp (st_p (st_p t 1 1 (0 : Int32)) 0 15 (-1 : Int32)) 0 b') 1 b) 2 a') 3 a) 65 1 (0 : Int32)) 0 14 (0 : Int32)) 65 1 = 0 := by rw [g_p_a (by omega)]; exact g_p_eq _ _ _ _
    have gl : ∀ k, st_gl (st_p (st_p (st_pp (st_pp (st_pp (st_pp (st_p (st_p t 1 1 (0 : Int32)) 0 15 (-1 : Int32)) 0 b') 1 b) 2 a') 3 a) 65 1 (0 : Int32)) 0 14 (0 : Int32)) 112 k = st_gl s 112 k := fun k => ft.2.2.2 112 k (Or.inr rfl)
    have g1 : (st_p (st_p (st_pp (st_pp (st_pp (st_pp (st_p (st_p t 1 1 (0 : Int32)) 0 15 (-1 : Int32)) 0 b') 1 b) 2 a') 3 a) 65 1 (0 : Int32)) 0 14 (0 : Int32)).1 = s.1 := ft.1
    generalize st_p (st_p (st_pp (st_pp (st_pp (st_pp (st_p (st_p t 1 1 (0 : Int32)) 0 15 (-1 : Int32)) 0 b') 1 b) 2 a') 3 a) 65 1 (0 : Int32)) 0 14 (0 : Int32) = u at gt up g11 gf g14 g65 gl g1
    have g : ∀ c k, ¬ wTx b' a' c k → ¬ (c = 1 ∧ k = 1) → ¬ (c = 0 ∧ (k = 15 ∨ k = 14)) → ¬ (c = 65 ∧ k = 1) → st_g u c k = st_g s c k := fun c k h1 h2 h3 h4 => by rw [gt c k h2 h3 h4]; exact ft.g h1
    have hok := CE_ok hCE
    refine kT _ (teM M T) u b' b a' a (hov _ hr) ⟨by rw [g1]; exact ⟨rfl, rfl⟩, fun c k hc => g c k (by unfold wTx; omega) (by omega) (by omega) (by omega), gl⟩ ?_ (okM_te hok) (fun T' _ h => by rw [enx, hr] at h; injection h with h; rw [← h]; exact hok)
    refine ⟨⟨⟨by rw [up, if_neg (by omega), if_neg (by omega), if_neg (by omega), if_pos rfl], by rw [up, if_neg (by omega), if_neg (by omega), if_pos rfl], by rw [up, if_neg (by omega), if_pos rfl], by rw [up, if_pos rfl]⟩, ⟨hB', hB, fun z => hbne z.symm⟩, ha', ha, fun z => hne z.symm⟩, ⟨by show 0 ≤ 700; omega, g11, fun i hi => absurd hi (Nat.not_lt_zero i)⟩, ⟨by rw [g _ _ (by unfold wTx; omega) (by omega) (by omega) (by omega)]; exact hC.2.2.1.1, by rw [gt _ _ (by omega) (by omega) (by omega)]; exact hCE.2.2.2.1.1, by rw [g _ _ (by unfold wTx; omega) (by omega) (by omega) (by omega)]; exact hC.2.2.1.2.1⟩, BkC_fr (fun c q h1 h2 => gt _ _ (by omega) (by omega) (by omega)) (CE_Bk hB' hCE), StC_fr (fun c q h1 h2 => gt _ _ (by omega) (by omega) (by omega)) (CE_St (isS_31 ha') hCE), StpS_fr (fun i hi => ?_) hC.2.2.2.2.2.1, ⟨g65, trivial⟩, ⟨g14, trivial⟩, fun i hi => by rw [g _ _ (by unfold wTx; omega) (by omega) (by omega) (by omega)]; exact hC.2.2.2.2.2.2.2.2.1 i hi, gf⟩
    rw [up, if_neg (by omega), if_neg (by omega), if_neg (by omega), if_neg (by omega)]
    exact q0 _ (by omega) (by omega) (by omega)
theorem roc_rco {t : bi_St} {C : Nat} {x : Int32} {P : Option Lp} (h : roc t 87 x P) (k : okO C P) : rco t 87 C x P := by
  cases P with
  | none => exact h
  | some P =>
    obtain ⟨n, h1, h2, h3⟩ := h
    exact ⟨n, h1, h2, h3, k.1⟩
theorem cR_tell (ho : okM M) (hR : RRf s M) (hT : okTl M x) : CtR X (d + 10) 202 [.ref 77, .int x] s M (oTell M x) := fun K kT kF => by
  have hTp := hR.1
  have hm := hTp.1
  have hC4 : mC M ≤ 4 := ho.1.1.2
  cases hx : nIn x (M.1.2 + 1)
  · have f1 : fsr s (st_p (st_p s 77 0 0) 77 0 1) := fsr_0.p (by omega) (by unfold impR impS; omega)
    refine ct_tellRN hTp.2.1 ?_ (kF 101 1 0 _ (ifF hx) f1.1 (g_p_eq _ _ _ _) (RRf_sr ho hR f1))
    by_cases h : x < 0
    · exact Or.inl h
    · refine Or.inr ?_
      obtain ⟨i, h1, e⟩ := zI_of h
      subst e
      by_cases hi : i < M.1.2 + 1
      · rw [nIn_zI (by omega) hi] at hx; cases hx
      · exact (zI_lt (by omega) h1).mpr (by omega)
  · obtain ⟨N, hN, e, enx⟩ := nIn_y (by omega) hx
    have hov : ∀ r, txt M.1.1 N = r → oTell M x = telO M r := fun r hr => by unfold oTell; rw [ifT hx, enx, hr]
    rw [e]
    refine ct_tellR hm (by omega) hTp.2.1 hTp.2.2 (fun er t hr ft t0 t2 t4 t79 => ?_) (fun T t hr ft t0 t2 t4 hF => ?_)
    · have g : ∀ c k, ¬ wTf c k → st_g t c k = st_g s c k := fun c k h => ft.g h
      refine kT _ (flM M er) t (hov _ hr) ⟨ft.1, fun c k hc => g c k (by unfold wTf; omega), ft.2.1, ft.2.2.2⟩ t0 ?_
      obtain ⟨_, hk, hst, ⟨l1, l2⟩, ⟨i1, i2⟩, h79, hf⟩ := hR
      refine ⟨⟨by show 0 ≤ 700; omega, t2, fun i hi => absurd hi (Nat.not_lt_zero i)⟩, BkR_fr (fun q h1 h2 => g _ _ (by unfold wTf; omega)) (fun c q hc => g _ _ (by unfold wTf; omega)) hk, StR_fr hC4 (g _ _ (by unfold wTf; omega)) (g _ _ (by unfold wTf; omega)) (fun k _ => g _ _ (by unfold wTf; omega)) (fun c k hc => g _ _ (by unfold wTf; omega)) hst, ⟨by rw [g _ _ (by unfold wTf; omega)]; exact l1, opt_mono (fun n hn => PlR_fr (fun c q hc => g _ _ (by unfold wTf; omega)) hn) l2⟩, ⟨by rw [g _ _ (by unfold wTf; omega)]; exact i1, opt_mono (fun x hx => ImR_fr hC4 (fun c q hc => g _ _ (by unfold wTf; omega)) hx) i2⟩, fun i hi => ?_, t4⟩
      show _ = rf0 M i
      unfold rf0
      by_cases ei : i = 0
      · rw [if_pos ei, ei, t79, h79 0 (by omega)]
      · rw [if_neg ei, g _ _ (by unfold wTf; omega)]; exact h79 i hi
    · have hok := hT T hx (by rw [enx]; exact hr)
      have g : ∀ c k, ¬ wTs c k → st_g t c k = st_g s c k := fun c k h => ft.g h
      refine kT _ (teM M T) t (hov _ hr) ⟨ft.1, fun c k hc => g c k (by unfold wTs; omega), ft.2.1, ft.2.2.2⟩ t0 ?_
      obtain ⟨⟨c1, c2, c3, c4, c5, c6⟩, op, ov, oz, os⟩ := hok
      obtain ⟨⟨f27, f28, f29, f30⟩, fp, fv, fG, ⟨f6, f7⟩, fc, ⟨f40, f62, f67, f48⟩⟩ := hF
      refine ⟨⟨by show 0 ≤ 700; omega, t2, fun i hi => absurd hi (Nat.not_lt_zero i)⟩, ⟨⟨c2, c5, f29, fun i hi => ?_⟩, fun i hi => ?_, ⟨f30, fun w hw => ?_⟩, f28, f27⟩, ⟨⟨by omega, c4, f7, f6, fun r hr => by rw [Nat.zero_add]; exact fG r hr, fun r c hr hc => by rw [show 0 + 8 + 4 * r + c = 8 + 4 * r + c by omega]; exact fc r c hr hc⟩, rfl, f40, ⟨by show 0 ≤ 8; omega, f62, fun i hi => absurd hi (Nat.not_lt_zero i)⟩⟩, ⟨f48, trivial⟩, ⟨f67, trivial⟩, fun i hi => by rw [g _ _ (by unfold wTs; omega)]; exact hR.2.2.2.2.2.1 i hi, t4⟩
      · obtain ⟨d1, d2, d3, d4, d5, d6, d7⟩ := fp i hi
        obtain ⟨o1, o2, o3, o4⟩ := op i hi
        exact ⟨d1, d2, d3, o1, o2, roc_rco d4 o3, roc_rco d5 o4⟩
      · obtain ⟨d1, d2, d3, d4, d5, d6, d7⟩ := fp i hi
        exact ⟨d6, d7⟩
      · obtain ⟨d1, d2, d3, d4, d5, d6⟩ := fv w hw
        obtain ⟨o1, o2, o3, o4⟩ := ov w hw
        exact ⟨d1, d2, d3, roc_rco d4 ⟨o3, o4⟩, d5, d6⟩
end V
end TELL
