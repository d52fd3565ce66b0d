/-! ===== the class reads policies ===== -/
section CPOL
theorem wRr_i {r lo sz a k : Nat} (h : wRr r lo sz a k = true) : (a = 1 ∧ 3 ≤ k ∧ k ≤ 8) ∨ (a = 44 ∧ k = 4) ∨ (r ≤ a ∧ a ≤ r + 3 ∧ ¬ (a = r ∧ k = 3)) := by
  simp only [wRr, wRs, wTk, Bool.or_eq_true, Bool.and_eq_true, Nat.beq_eq, Nat.ble_eq] at h
  omega
theorem wRf_i {r lo a k : Nat} (h : wRf r lo a k = true) : (a = 1 ∧ 3 ≤ k) ∨ (a = 44 ∧ k = 4) ∨ (r ≤ a ∧ a ≤ r + 3 ∧ ¬ (a = r ∧ k = 3)) := by
  simp only [wRf, wRs, wTk, Bool.or_eq_true, Bool.and_eq_true, Nat.beq_eq, Nat.ble_eq] at h
  omega
/-- what reading a rule may change -/
def wRl2 (r c k : Nat) : Prop := (c = 1 ∧ 3 ≤ k) ∨ (c = 44 ∧ k = 4) ∨ (r ≤ c ∧ c ≤ r + 3 ∧ ¬ (c = r ∧ k = 3))
theorem ct_ruleX {X : bi_X} {d : Nat} {K : Int32 → bi_St → Prop} {E : Nat → bi_St → Prop} {s : bi_St} {B : Nat → Nat} {N C R r lo q sz : Nat} (hT : TB s B N) (hq : CT s B N q) (hC : C ≤ 4) (hR : R ≤ 6) (hE : RE s r sz lo) (hsz : sz < st_rn r) (hlq : lo ≤ q) (hgp : st_gp s 6 = r) (h2 : st_g s 44 2 = zI C) (h3 : st_g s 44 3 = zI R)
    (kF : ∀ e t, exr B N C R q = .inl e → fg (wRl2 r) s t → st_g t 1 9 = zI e.1 → st_g t 1 10 = zI e.2 → 1 ≤ e.1 → e.1 ≤ 3 → e.2 ≤ N → K (-1) t)
    (kT : ∀ x t, exr B N C R q = .inr x → fg (wRl2 r) s t → TB t B N → CT t B N x.1 → q ≤ x.1 → RE t r (sz + 1) (lo + x.2.1.length) → lo + x.2.1.length ≤ x.1 → rx t r C sz x.2.1 x.2.2 → (∀ C n P sil, rx s r C n P sil → rx t r C n P sil) → st_g t 1 9 = st_g s 1 9 → st_g t 1 10 = st_g s 1 10 → st_gp t 6 = r → K (zI sz) t) : cI X (d + 57) 50 [.ref 44] s K E := by
  have hb := isR_ge hE.1
  have hrn := st_rn_le (b := r)
  refine ct_readRule hT hq hC hR hE hsz hlq hgp h2 h3 (fun t f p ht a1 a2 a3 a4 a5 he => ?_) (fun t q' P sil ht a1 a2 a3 a4 a5 a6 a7 a8 a9 he => ?_)
  · refine kF (f, p) t (exr_eq hq.1 he) (fg.refl.f ht (fun a k hh => wRf_i hh) (fun k => ?_) (fun k => ?_)) a1 a2 a3 a4 a5
    · cases hv : wRf r lo 77 k
      · rfl
      · have := wRf_i hv; omega
    · cases hv : wRf r lo 112 k
      · rfl
      · have := wRf_i hv; omega
  · refine kT (q', P, sil) t (exr_eq hq.1 he) (fg.refl.f ht (fun a k hh => by have := wRr_i hh; unfold wRl2; omega) (fun k => ?_) (fun k => ?_)) a1 a2 a3 a4 a5 a7 (fun C n P sil hr => rx_keep hE a4.2.2.2.1 (by omega) ht a6 ?_ hr) a8 a9 (by rw [ht.2.1]; exact hgp)
    · cases hv : wRr r lo sz 77 k
      · rfl
      · have := wRr_i hv; omega
    · cases hv : wRr r lo sz 112 k
      · rfl
      · have := wRr_i hv; omega
    · obtain ⟨⟨l0, sz', b1, b2, b3, _⟩, _⟩ := hr
      have := hE.2.2.2.1
      rw [b1] at this
      have := (zI_eq (show sz' < 2147483648 by omega) (show sz < 2147483648 by omega)).mp this
      omega
/-- what reading a rule into the slot p of the cell b + j may change -/
def wOp (b j p c k : Nat) : Prop := wRl2 (b + 8) c k ∨ (c = b + j ∧ k = p)
theorem st_rnB {b : Nat} (h : st_isB b) : st_rn (b + 8) = 19 := by rcases h with rfl | rfl <;> rfl
theorem ct_opt {X : bi_X} {d : Nat} {F : bi_St → Prop} {u : bi_St} {B : Nat → Nat} {N C R b q lo sz p j jw pn : Nat} (hpn : pn = p) (hT : TB u B N) (hC : CT u B N q) (hb : st_isB b) (g4 : st_gp u 4 = b) (g6 : st_gp u 6 = b + 8) (h2 : st_g u 44 2 = zI C) (h3 : st_g u 44 3 = zI R) (hCR : C ≤ 4 ∧ R ≤ 6) (hE : RE u (b + 8) sz lo) (hsz : sz < 19) (hlo : lo ≤ q) (hp : p < 8) (hj : 3 ≤ j ∧ j ≤ 4) (hw : jw < 25)
    (kN : kn B N q ≠ wPm jw → F u)
    (kF : ∀ e t, kn B N q = wPm jw → exr B N C R (tE B N q) = .inl e → fg (wOp b j p) u t → st_g t 1 9 = zI e.1 → st_g t 1 10 = zI e.2 → 1 ≤ e.1 → e.1 ≤ 3 → F t)
    (kT : ∀ x t, kn B N q = wPm jw → exr B N C R (tE B N q) = .inr x → fg (wOp b j p) u t → st_g t 1 9 = st_g u 1 9 → TB t B N → CT t B N x.1 → q < x.1 → RE t (b + 8) (sz + 1) (lo + x.2.1.length) → lo + x.2.1.length ≤ x.1 → (∀ C n P sil, rx u (b + 8) C n P sil → rx t (b + 8) C n P sil) → st_g t (b + j) p = zI sz → rx t (b + 8) C sz x.2.1 x.2.2 → st_gp t 6 = b + 8 → F t) :
    cI X (d + 57) 96 [.ref 1, .ref (jw + 5000)] u (fun (r3 : Int32) (s3 : bi_St) => ((r3 = 0) → F s3) ∧ (¬ (r3 = 0) → cV X (d + 57) 94 [.ref 1] s3 (fun (s4 : bi_St) => st_isB (st_gp s4 4) ∧ (cI X (d + 57) 50 [.ref 44] s4 (fun (r5 : Int32) (s5 : bi_St) => bi_in (zI p) 8 = true ∧ (F (st_p s5 ((st_gp s4 4) + j) pn r5))) (fun _ _ => False))) (fun _ _ => False))) (fun _ _ => False) := by
  subst hpn
  have hbr := isB_r hb
  refine ct_isWord hT hC hw ?_
  rw [b2i_ne0]
  refine ⟨fun z => kN (by simpa using z), fun z => ?_⟩
  have z : kn B N q = wPm jw := by simpa using z
  have hw25 := (wPm_ok ⟨jw, hw⟩).1
  have hw25 : wPm jw < 25 := hw25
  have h0 : tK B N q ≠ 0 := by have := (kn_lt (B := B) (N := N) (q := q) (by omega)).1; omega
  have hadv := tok_adv (B := B) hC.1 h0
  refine ct_advC hT hC (fun t ht hTt hCt => ?_)
  have t4 : st_gp t 4 = b := by rw [ht.2.1]; exact g4
  rw [t4]
  refine ⟨hb, ?_⟩
  have f0 : fg (wOp b j pn) u t := fg.refl.tk ht (fun k h1 h2 => Or.inl (Or.inl ⟨rfl, h1⟩))
  have wR : ∀ c k, wRl2 (b + 8) c k → wOp b j pn c k := fun c k hh => Or.inl hh
  have hEt : RE t (b + 8) sz lo := RE_eq (fun k => ht.g (wTk_ne (by omega))) (fun k => ht.g (wTk_ne (by omega))) hE
  have rxt : ∀ C n P sil, rx u (b + 8) C n P sil → rx t (b + 8) C n P sil := fun C n P sil hr => rx_fr (fun a k h1 h2 => ht.g (wTk_ne (by omega))) hr
  refine ct_ruleX (r := b + 8) hTt hCt hCR.1 hCR.2 hEt (by rw [st_rnB hb]; exact hsz) (by omega) (by rw [ht.2.1]; exact g6) (by rw [ht.g (wTk_ne (by omega))]; exact h2) (by rw [ht.g (wTk_ne (by omega))]; exact h3) (fun e v he hv v9 v10 e1 e3 _ => ?_) (fun x v he hv hTv hCv hqv hEv hlv hrx hkeep v9 _ v6 => ?_)
  · refine ⟨in_zI hp (by omega), kF e _ z he ((f0.trans (hv.mono wR)).p (Or.inr ⟨rfl, rfl⟩)) ?_ ?_ e1 e3⟩
    · rw [g_p_a (by omega)]; exact v9
    · rw [g_p_a (by omega)]; exact v10
  · have keep2 : ∀ C n P sil, rx v (b + 8) C n P sil → rx (st_p v (b + j) pn (zI sz)) (b + 8) C n P sil := fun C n P sil hr => rx_fr (fun a k h1 h2 => g_p_a (by omega)) hr
    refine ⟨in_zI hp (by omega), kT x _ z he ((f0.trans (hv.mono wR)).p (Or.inr ⟨rfl, rfl⟩)) ?_ (TB_fr (g_p_a (by omega)) (fun k => g_p_a (by omega)) hTv) (CT_fr (fun k h1 h2 => g_p_a (by omega)) hCv) (by omega) (RE_eq (fun k => g_p_a (by omega)) (fun k => g_p_a (by omega)) hEv) hlv (fun C n P sil hr => keep2 _ _ _ _ (hkeep _ _ _ _ (rxt _ _ _ _ hr))) (g_p_eq _ _ _ _) (keep2 _ _ _ _ hrx) v6⟩
    rw [g_p_a (by omega), v9, ht.g rfl]
theorem ct_commandNamed {X : bi_X} {d : Nat} {K : Int32 → bi_St → Prop} {E : Nat → bi_St → Prop} {s : bi_St} {B : Nat → Nat} {N q : Nat} (hT : TB s B N) (hC : CT s B N q) (k : K (if 4 < kn B N q then -1 else zI (kn B N q)) s) : cI X (d + 1) 110 [.ref 43] s K E := by
  have w : ∀ j n, j < 25 → wPm j = n → ∀ K' : Int32 → bi_St → Prop, K' (b2i (decide (kn B N q = n))) s → cI X d 96 [.ref 1, .ref (j + 5000)] s K' (fun _ _ => False) := fun j n hj hn K' hK => ct_isWord hT hC hj (by rw [hn]; exact hK)
  have no : ∀ n, (b2i (decide (kn B N q = n)) = 0) → ¬ kn B N q = n := fun n z => by rw [b2i_ne0] at z; simpa using z
  have yes : ∀ n, ¬ (b2i (decide (kn B N q = n)) = 0) → kn B N q = n := fun n z => by rw [b2i_ne0] at z; simpa using z
  refine en_X9_commandNamed (w 15 0 (by omega) rfl _ ⟨fun z0 => w 16 1 (by omega) rfl _ ⟨fun z1 => w 17 2 (by omega) rfl _ ⟨fun z2 => w 18 3 (by omega) rfl _ ⟨fun z3 => w 19 4 (by omega) rfl _ ⟨fun z4 => ?_, fun z => ?_⟩, fun z => ?_⟩, fun z => ?_⟩, fun z => ?_⟩, fun z => ?_⟩)
  · have := no _ z0; have := no _ z1; have := no _ z2; have := no _ z3; have := no _ z4
    rw [if_pos (by omega)] at k; exact k
  all_goals rw [yes _ z, if_neg (by omega)] at k; exact k
theorem ct_readWhose {X : bi_X} {d : Nat} {K : Int32 → bi_St → Prop} {E : Nat → bi_St → Prop} {s : bi_St} {B : Nat → Nat} {N b q R p : Nat} (hT : TB s B N) (hC : CT s B N q) (hb : st_isB b) (g4 : st_gp s 4 = b) (b1 : st_g s b 1 = zI R) (hR : R ≤ 6) (hp : p < 8) (hk : kn B N q = 8 ∨ kn B N q = 9)
    (kF1 : kn B N (tE B N q) ≠ 10 ∧ nmF B N (tE B N q) R 3 ≠ 0 → ∀ t, fg (fun c k => (c = 1 ∧ 3 ≤ k) ∨ (c = b ∧ k = 3) ∨ ((c = b + 1 ∨ c = b + 2) ∧ k = p)) s t → st_g t 1 9 = zI (nmF B N (tE B N q) R 3) → st_g t 1 10 = zI (tS B N (tE B N q)) → K 0 t)
    (kF2 : ¬ (kn B N (tE B N q) ≠ 10 ∧ nmF B N (tE B N q) R 3 ≠ 0) → 4 < kn B N (tE B N (tE B N q)) → ∀ t, fg (fun c k => (c = 1 ∧ 3 ≤ k) ∨ (c = b ∧ k = 3) ∨ ((c = b + 1 ∨ c = b + 2) ∧ k = p)) s t → st_g t 1 9 = zI 1 → st_g t 1 10 = zI (tS B N (tE B N (tE B N q))) → K 0 t)
    (kT : ¬ (kn B N (tE B N q) ≠ 10 ∧ nmF B N (tE B N q) R 3 ≠ 0) → ¬ 4 < kn B N (tE B N (tE B N q)) → ∀ t, fg (fun c k => (c = 1 ∧ 3 ≤ k ∧ k ≤ 8) ∨ (c = b ∧ k = 3) ∨ ((c = b + 1 ∨ c = b + 2) ∧ k = p)) s t → TB t B N → CT t B N (tE B N (tE B N (tE B N q))) → q + 2 < tE B N (tE B N (tE B N q)) → st_g t b 3 = (st_g s b 3 ||| (if kn B N q = 9 then s1 p else 0)) → st_g t (b + 1) p = (if kn B N (tE B N q) = 10 then -1 else zI (tV B N (tE B N q))) → (kn B N (tE B N q) ≠ 10 → tV B N (tE B N q) < R) → st_g t (b + 2) p = zI (kn B N (tE B N (tE B N q))) → K 1 t) : cI X (d + 4) 109 [.ref 43, .int (zI p)] s K E := by
  have hbr := isB_r hb
  have h0 : tK B N q ≠ 0 := by have := (kn_lt (B := B) (N := N) (q := q) (by omega)).1; omega
  have hadv := tok_adv (B := B) hC.1 h0
  obtain ⟨W0, hW0⟩ : ∃ W0 : Nat → Nat → Prop, W0 = fun c k => (c = 1 ∧ 3 ≤ k ∧ k ≤ 8) ∨ (c = b ∧ k = 3) ∨ ((c = b + 1 ∨ c = b + 2) ∧ k = p) := ⟨_, rfl⟩
  rw [← hW0] at kT
  have w1 : ∀ k, 3 ≤ k → k ≤ 8 → W0 1 k := fun k h1 h2 => by rw [hW0]; exact Or.inl ⟨rfl, h1, h2⟩
  have wm : ∀ c k, W0 c k → (fun c k => (c = 1 ∧ 3 ≤ k) ∨ (c = b ∧ k = 3) ∨ ((c = b + 1 ∨ c = b + 2) ∧ k = p)) c k := fun c k hh => by rw [hW0] at hh; omega
  have wf : ∀ c k, (c = 1 ∧ 9 ≤ k) → (fun c k => (c = 1 ∧ 3 ≤ k) ∨ (c = b ∧ k = 3) ∨ ((c = b + 1 ∨ c = b + 2) ∧ k = p)) c k := fun c k hh => Or.inl ⟨hh.1, by omega⟩
  have wn : ∀ c k, (c ≠ 1 ∨ k < 3 ∨ 8 < k) → (c ≠ b ∨ k ≠ 3) → ((c ≠ b + 1 ∧ c ≠ b + 2) ∨ k ≠ p) → ¬ W0 c k := fun c k h1 h2 h3 hh => by rw [hW0] at hh; omega
  -- from the role's word on
  have s98 : ∀ u, fg W0 s u → TB u B N → CT u B N (tE B N q) → tK B N (tE B N q) ≠ 0 → ¬ (kn B N (tE B N q) ≠ 10 ∧ nmF B N (tE B N q) R 3 ≠ 0) → st_g u b 3 = (st_g s b 3 ||| (if kn B N q = 9 then s1 p else 0)) → st_g u (b + 1) p = (if kn B N (tE B N q) = 10 then -1 else zI (tV B N (tE B N q))) → (kn B N (tE B N q) ≠ 10 → tV B N (tE B N q) < R) → at_X9_readWhose_98 X (d + 4) K E u (zI p) := by
    intro u fu hTu hCu hk1 hno u3 u1 hlt
    have hadv1 := tok_adv (B := B) hCu.1 hk1
    refine go_X9_readWhose_98 (ct_advC hTu hCu (fun t ht hTt hCt => ?_))
    have t4 : st_gp t 4 = b := by rw [ht.2.1, fu.2.1 _ (by omega)]; exact g4
    rw [t4, zI_nat (by omega)]
    refine ⟨hb, ct_commandNamed hTt hCt ?_⟩
    rw [gp_p, t4, g_p_eq]
    refine ⟨in_zI hp (by omega), hb, in_zI hp (by omega), ?_⟩
    have fv : ∀ v, fg W0 s (st_p t (b + 2) p v) := fun v => (fu.tk ht w1).p (by rw [hW0]; exact Or.inr (Or.inr ⟨Or.inr rfl, rfl⟩))
    by_cases h4 : 4 < kn B N (tE B N (tE B N q))
    · rw [if_pos h4]
      exact ⟨fun z => absurd rfl z, fun _ => ct_refC (f := 1) (CT_fr (fun k h1 h2 => g_p_a (by omega)) hCt) (fun v hv v9 v10 => ⟨rfl, kF2 hno h4 v (((fv _).mono wm).trans (hv.mono wf)) v9 v10⟩)⟩
    · rw [if_neg h4]
      have hkk := (kn_lt (B := B) (N := N) (q := tE B N (tE B N q)) (by omega)).1
      have hadv2 := tok_adv (B := B) hCt.1 (by omega)
      refine ⟨fun _ => ct_advC (TB_fr (g_p_a (by omega)) (fun k => g_p_a (by omega)) hTt) (CT_fr (fun k h1 h2 => g_p_a (by omega)) hCt) (fun v hv hTv hCv => kT hno h4 v ((fv _).tk hv w1) hTv hCv (by omega) ?_ ?_ hlt ?_), fun z => absurd (fun y => zI_m1 (by omega) y) z⟩
      · rw [hv.g (wTk_ne (by omega)), g_p_a (by omega), ht.g (wTk_ne (by omega))]; exact u3
      · rw [hv.g (wTk_ne (by omega)), g_p_a (by omega), ht.g (wTk_ne (by omega))]; exact u1
      · rw [hv.g (wTk_ne (by omega)), g_p_eq]
  have aft : ∀ v3, v3 = (st_g s b 3 ||| (if kn B N q = 9 then s1 p else 0)) → cV X (d + 3) 94 [.ref 1] (st_p s b 3 v3) (fun (s2 : bi_St) => st_isB (st_gp s2 4) ∧ (bi_in (zI p) 8 = true ∧ (cI X (d + 3) 96 [.ref 1, .ref 5014] (st_p s2 ((st_gp s2 4) + 1) (zI p).toNatClampNeg (-1 : Int32)) (fun (r3 : Int32) (s3 : bi_St) => ((¬ r3 = 0) → at_X9_readWhose_98 X (d + 4) K E s3 (zI p)) ∧ (¬ (¬ r3 = 0) → st_isB (st_gp s3 4) ∧ (cI X (d + 3) 101 [.ref 1, .int ((st_g s3 (st_gp s3 4) 1) - (1 : Int32)), .int (3 : Int32)] s3 (fun (r4 : Int32) (s4 : bi_St) => ((¬ r4 = 0) → st_isB (st_gp s4 4) ∧ (bi_in (zI p) 8 = true ∧ (at_X9_readWhose_98 X (d + 4) K E (st_p s4 ((st_gp s4 4) + 1) (zI p).toNatClampNeg (st_g s4 1 6)) (zI p)))) ∧ (¬ (¬ r4 = 0) → K (0 : Int32) s4)) (fun _ _ => False)))) (fun _ _ => False)))) (fun _ _ => False) := by
    intro v3 hv3
    refine ct_advC (TB_fr (g_p_a (by omega)) (fun k => g_p_a (by omega)) hT) (CT_fr (fun k h1 h2 => g_p_a (by omega)) hC) (fun t ht hTt hCt => ?_)
    have t4 : st_gp t 4 = b := by rw [ht.2.1]; exact g4
    rw [t4, zI_nat (by omega)]
    have ft : fg W0 s (st_p t (b + 1) p (-1)) := ((fg.refl.p (by rw [hW0]; exact Or.inr (Or.inl ⟨rfl, rfl⟩))).tk ht w1).p (by rw [hW0]; exact Or.inr (Or.inr ⟨Or.inl rfl, rfl⟩))
    have hTt' : TB (st_p t (b + 1) p (-1)) B N := TB_fr (g_p_a (by omega)) (fun k => g_p_a (by omega)) hTt
    have hCt' : CT (st_p t (b + 1) p (-1)) B N (tE B N q) := CT_fr (fun k h1 h2 => g_p_a (by omega)) hCt
    have t3 : st_g (st_p t (b + 1) p (-1)) b 3 = (st_g s b 3 ||| (if kn B N q = 9 then s1 p else 0)) := by rw [g_p_a (by omega), ht.g (wTk_ne (by omega)), g_p_eq, hv3]
    have tp : st_g (st_p t (b + 1) p (-1)) (b + 1) p = -1 := g_p_eq _ _ _ _
    have t4' : st_gp (st_p t (b + 1) p (-1)) 4 = b := t4
    generalize st_p t (b + 1) p (-1) = t' at ft hTt' hCt' t3 tp t4'
    refine ⟨hb, in_zI hp (by omega), ct_isWord (j := 14) hTt' hCt' (by omega) ?_⟩
    rw [b2i_ne0, show wPm 14 = 10 from rfl]
    refine ⟨fun z => ?_, fun z => ?_⟩
    · have z : kn B N (tE B N q) = 10 := by simpa using z
      refine s98 t' ft hTt' hCt' (by have := (kn_lt (B := B) (N := N) (q := tE B N q) (by omega)).1; omega) (fun y => y.1 z) t3 (by rw [if_pos z]; exact tp) (fun y => absurd z y)
    · have z : ¬ kn B N (tE B N q) = 10 := by simpa using z
      rw [t4', ft.g (wn b 1 (by omega) (by omega) (by omega)), b1]
      refine ⟨hb, ct_needN (m := R) (fk := 3) hCt' rfl (by omega) (by omega) (fun hn k2 u6 hlt => ⟨fun _ => ⟨by rw [t4']; exact hb, in_zI hp (by omega), ?_⟩, fun z => absurd (by decide) z⟩) (fun hn v hv v9 v10 => ⟨fun z => absurd rfl z, fun _ => kF1 ⟨z, hn⟩ v ((ft.mono wm).trans (hv.mono wf)) v9 v10⟩)⟩
      rw [t4', u6]
      refine s98 _ (ft.p (by rw [hW0]; exact Or.inr (Or.inr ⟨Or.inl rfl, rfl⟩))) (TB_fr (g_p_a (by omega)) (fun k => g_p_a (by omega)) hTt') (CT_fr (fun k h1 h2 => g_p_a (by omega)) hCt') (by omega) (fun y => y.2 hn) (by rw [g_p_a (by omega)]; exact t3) (by rw [if_neg z, g_p_eq]) (fun _ => hlt)
  refine en_X9_readWhose ?_
  rw [g4]
  refine ⟨hb, ct_isWord (j := 10) hT hC (by omega) ?_⟩
  rw [b2i_ne0, show wPm 10 = 9 from rfl]
  refine ⟨fun z => aft _ ?_, fun z => aft _ ?_⟩
  · have z : ¬ kn B N q = 9 := by simpa using z
    rw [if_neg z]
  · have z : kn B N q = 9 := by simpa using z
    rw [if_pos z]; rfl
end CPOL
