/-! ===== feed ===== -/
section FEED
abbrev Tp : Type := (Nat → Nat) × Nat
def by1 (x : Int32) (k : Nat) : Nat := (x >>> (zI k &&& 31)).toBitVec.toNat % 256
def put1 (T : Tp) (c : Nat) : Tp := (fun i => if i = T.2 then c else T.1 i, T.2 + 1)
def put4 (T : Tp) (x : Int32) : Tp := put1 (put1 (put1 (put1 T (by1 x 24)) (by1 x 16)) (by1 x 8)) (by1 x 0)
def oFeed (M : Ms6) (x0 x1 x2 x3 x4 : Int32) : Ou := if M.1.2 + 20 ≤ 700 then .inr (zI (M.1.2 + 20), (put4 (put4 (put4 (put4 (put4 M.1 x0) x1) x2) x3) x4, M.2)) else .inr (-1, M)
theorem nar_sb : ∀ n : Fin 256, bi_nar 13 (zI n.1).toInt8.toInt32 = sb n.1 := by decide +kernel
theorem t255 : ∀ p : Fin 32, tb (255 : Int32) p.1 = decide (p.1 < 8) := by decide +kernel
theorem zI_and255 (v : Int32) : (v &&& 255) = zI (v.toBitVec.toNat % 256) := tb_ext fun p hp => by
  rw [tb_and, t255 ⟨p, hp⟩, tb_zI hp, show 256 = 2 ^ 8 from rfl, Nat.testBit_mod_two_pow, Bool.and_comm]; rfl
theorem lo8 (v : Int32) : v.toInt8 = (zI (v.toBitVec.toNat % 256)).toInt8 := by
  apply Int8.toBitVec_inj.mp
  show v.toBitVec.signExtend 8 = (zI (v.toBitVec.toNat % 256)).toBitVec.signExtend 8
  apply BitVec.eq_of_getLsbD_eq
  intro i hi
  rw [BitVec.getLsbD_signExtend, BitVec.getLsbD_signExtend, if_pos (show i < 32 by omega), if_pos (show i < 32 by omega)]
  have h := congrArg (fun z => tb z i) (zI_and255 v)
  have h : tb (v &&& 255) i = tb (zI (v.toBitVec.toNat % 256)) i := h
  rw [tb_and, t255 ⟨i, by omega⟩, decide_eq_true hi, Bool.and_true] at h
  unfold tb at h
  rw [h]
theorem nar_by {x : Int32} {k : Nat} : bi_nar 13 (x >>> (zI k &&& 31)).toInt8.toInt32 = sb (by1 x k) := by
  rw [lo8]; exact nar_sb ⟨by1 x k, Nat.mod_lt _ (by omega)⟩
theorem by_lt {x : Int32} {k : Nat} : by1 x k < 256 := Nat.mod_lt _ (by omega)
section V
variable {X : bi_X} {d : Nat} {s : bi_St} {M : Ms6} {b b' a a' : Nat} {x x0 x1 x2 x3 x4 : Int32}
/-- cells of the tape -/
def fT (s t : bi_St) : Prop := t.1 = s.1 ∧ (∀ c k, ¬ (c = 1 ∧ k = 1) → c ≠ 2 → st_g t c k = st_g s c k) ∧ (∀ i, st_gp t i = st_gp s i) ∧ ∀ k, st_gl t 112 k = st_gl s 112 k
theorem fT.refl : fT s s := ⟨rfl, fun _ _ _ _ => rfl, fun _ => rfl, fun _ => rfl⟩
theorem fT.trans {t u : bi_St} (h : fT s t) (k : fT t u) : fT s u := ⟨k.1.trans h.1, fun c q h1 h2 => (k.2.1 c q h1 h2).trans (h.2.1 c q h1 h2), fun i => (k.2.2.1 i).trans (h.2.2.1 i), fun q => (k.2.2.2 q).trans (h.2.2.2 q)⟩
theorem ct_put1 {K : bi_St → Prop} {E : Nat → bi_St → Prop} {T : Tp} {k : Nat} {y2 : Int32} (hm : T.2 < 700) (hk : k < 32) (hT : TpC s T.1 T.2) (k2 : ∀ t, fT s t → TpC t (put1 T (by1 x k)).1 (put1 T (by1 x k)).2 → at_X8_put_3 X d K E t x (zI k + (-8 : Int32))) : at_X8_put_3 X d K E s x (zI k) := by
  refine go_X8_put_3 ⟨fun h => absurd h (zI_nn (by omega)), fun _ => ?_⟩
  obtain ⟨t1, t2, t3⟩ := hT
  have p2 : ∀ (t : bi_St) q v, st_g (st_p t 2 q v) 1 1 = st_g t 1 1 := fun t q v => g_p_a (by omega)
  rw [p2, t2, show (700 : Int32) = zI 700 from rfl, zI_le (by omega) (by omega), zI_nat (by omega), zI_add1, nar_by]
  refine ⟨fun h => by omega, fun _ => ⟨in_zI (by omega) (by omega), k2 _ ⟨rfl, fun c q h1 h2 => by rw [g_p, if_neg h1, g_p_a h2], fun _ => rfl, fun _ => rfl⟩ ⟨by show T.2 + 1 ≤ 700; omega, g_p_eq _ _ _ _, fun i hi => ?_⟩⟩⟩
  have hi : i < T.2 + 1 := hi
  show (if i = T.2 then by1 x k else T.1 i) < 256 ∧ _ = sb (if i = T.2 then by1 x k else T.1 i)
  rw [g_p_a (by omega)]
  by_cases e : i = T.2
  · rw [if_pos e, e, g_p_eq]; exact ⟨by_lt, rfl⟩
  · rw [if_neg e, g_p_k e]; exact t3 i (by omega)
theorem ct_put4 {K : bi_St → Prop} {E : Nat → bi_St → Prop} {T : Tp} (hm : T.2 + 4 ≤ 700) (hT : TpC s T.1 T.2) (k : ∀ t, fT s t → TpC t (put4 T x).1 (put4 T x).2 → K t) : cV X d 92 [.ref 1, .int x] s K E := by
  refine en_X8_put ?_
  show at_X8_put_3 X d K E s x (zI 24)
  refine ct_put1 (y2 := 0) (by omega) (by omega) hT (fun t1 f1 h1 => ?_)
  show at_X8_put_3 X d K E t1 x (zI 16)
  refine ct_put1 (y2 := 0) (by show T.2 + 1 < 700; omega) (by omega) h1 (fun t2 f2 h2 => ?_)
  show at_X8_put_3 X d K E t2 x (zI 8)
  refine ct_put1 (y2 := 0) (by show T.2 + 1 + 1 < 700; omega) (by omega) h2 (fun t3 f3 h3 => ?_)
  show at_X8_put_3 X d K E t3 x (zI 0)
  refine ct_put1 (y2 := 0) (by show T.2 + 1 + 1 + 1 < 700; omega) (by omega) h3 (fun t4 f4 h4 => go_X8_put_3 ⟨fun _ => k t4 (((f1.trans f2).trans f3).trans f4) h4, fun z => absurd (show (zI 0 + (-8 : Int32)) < 0 by decide) z⟩)
theorem RCl_tp {t : bi_St} {T : Tp} (ho : okM M) (hC : RCl s b b' a a' M) (h : fT s t) (hT : TpC t T.1 T.2) : RCl t b b' a a' (T, M.2) := by
  have hb := isB_r hC.1.2.1.1
  have hb' := isB_r hC.1.2.1.2.1
  have ha := hC.1.2.2.1
  have g := h.2.1
  have tp := h.2.2.1
  obtain ⟨hrf, _, ⟨m1, m2, m3⟩, hk, hst, hsp, ⟨l1, l2⟩, ⟨i1, i2⟩, h76, hf⟩ := hC
  have hpn := ho.2.2.2
  refine ⟨⟨⟨by rw [tp]; exact hrf.1.1, by rw [tp]; exact hrf.1.2.1, by rw [tp]; exact hrf.1.2.2.1, by rw [tp]; exact hrf.1.2.2.2⟩, hrf.2⟩, hT, ⟨by rw [g _ _ (by omega) (by omega)]; exact m1, by rw [g _ _ (by omega) (by omega)]; exact m2, by rw [g _ _ (by omega) (by omega)]; exact m3⟩, BkC_fr (fun c q h1 h2 => g _ _ (by omega) (by omega)) hk, StC_fr (fun c q h1 h2 => g _ _ (by omega) (by omega)) hst, StpS_fr (fun i hi => tp _) hsp, ⟨by rw [g _ _ (by omega) (by omega)]; exact l1, ?_⟩, ⟨by rw [g _ _ (by omega) (by omega)]; exact i1, opt_mono (fun x hx => StC_fr (fun c q h1 h2 => g _ _ (by omega) (by omega)) hx) i2⟩, fun i hi => by rw [g _ _ (by omega) (by omega)]; exact h76 i hi, by rw [g _ _ (by omega) (by omega)]; exact hf⟩
  revert l2 hpn
  show opt (PlC s) M.2.2.2.2.1 → opt okP M.2.2.2.2.1 → opt (PlC t) M.2.2.2.2.1
  cases M.2.2.2.2.1 with
  | none => intro _ _; exact trivial
  | some n => intro hn hl; exact PlC_fr (fun c q hc => g _ _ (by omega) (by omega)) (fun i hi => tp _) hl.1 hsp hn
theorem cC_feed (ho : okM M) (hC : RCl s b b' a a' M) : CtC X (d + 1) 123 [.ref 0, .int x0, .int x1, .int x2, .int x3, .int x4] s M (oFeed M x0 x1 x2 x3 x4) := fun K E kT kF => by
  have hT := hC.2.1
  have hm := hT.1
  refine en_X11_feed ?_
  rw [hT.2.1, show zI M.1.2 + (20 : Int32) = zI (M.1.2 + 20) from zI_add _ 20, show (700 : Int32) = zI 700 from rfl, zI_le (by omega) (by omega)]
  refine ⟨fun h => ?_, fun h => kT _ M s b b' a a' (if_neg h) (fcl_sc fsc.refl) hC⟩
  refine ct_put4 (by omega) hT (fun t1 f1 h1 => ct_put4 (by show M.1.2 + 4 + 4 ≤ 700; omega) h1 (fun t2 f2 h2 => ct_put4 (by show M.1.2 + 4 + 4 + 4 ≤ 700; omega) h2 (fun t3 f3 h3 => ct_put4 (by show M.1.2 + 4 + 4 + 4 + 4 ≤ 700; omega) h3 (fun t4 f4 h4 => ct_put4 (by show M.1.2 + 4 + 4 + 4 + 4 + 4 ≤ 700; omega) h4 (fun t5 f5 h5 => ?_)))))
  have f := (((f1.trans f2).trans f3).trans f4).trans f5
  rw [h5.2.1]
  exact kT _ _ t5 b b' a a' (if_pos h) ⟨by rw [f.1]; exact ⟨rfl, rfl⟩, fun c k hc => f.2.1 c k (by omega) (by omega), f.2.2.2⟩ (RCl_tp ho hC f h5)
/-- cells of the reference's tape -/
def fTr (s t : bi_St) : Prop := t.1 = s.1 ∧ (∀ c k, ¬ (c = 77 ∧ k = 2) → c ≠ 78 → st_g t c k = st_g s c k) ∧ (∀ i, st_gp t i = st_gp s i) ∧ ∀ k, st_gl t 112 k = st_gl s 112 k
theorem fTr.trans {t u : bi_St} (h : fTr s t) (k : fTr t u) : fTr s u := ⟨k.1.trans h.1, fun c q h1 h2 => (k.2.1 c q h1 h2).trans (h.2.1 c q h1 h2), fun i => (k.2.2.1 i).trans (h.2.2.1 i), fun q => (k.2.2.2 q).trans (h.2.2.2 q)⟩
theorem ct_lay1 {K : bi_St → Prop} {E : Nat → bi_St → Prop} {T : Tp} {k : Nat} (hm : T.2 < 700) (hk : k < 32) (hT : TpR s T.1 T.2) (k2 : ∀ t, fTr s t → TpR t (put1 T (by1 x k)).1 (put1 T (by1 x k)).2 → at_X12_lays_3 X d K E t x (zI k + (-8 : Int32))) : at_X12_lays_3 X d K E s x (zI k) := by
  refine go_X12_lays_3 ⟨fun h => absurd h (zI_nn (by omega)), fun _ => ?_⟩
  obtain ⟨t1, t2, t3⟩ := hT
  have p2 : ∀ (t : bi_St) q v, st_g (st_p t 78 q v) 77 2 = st_g t 77 2 := fun t q v => g_p_a (by omega)
  rw [p2, t2, zI_nat (by omega), zI_add1, zI_and255]
  refine ⟨in_zI (by omega) (by omega), k2 _ ⟨rfl, fun c q h1 h2 => by rw [g_p, if_neg h1, g_p_a h2], fun _ => rfl, fun _ => rfl⟩ ⟨by show T.2 + 1 ≤ 700; omega, g_p_eq _ _ _ _, fun i hi => ?_⟩⟩
  have hi : i < T.2 + 1 := hi
  show (if i = T.2 then by1 x k else T.1 i) < 256 ∧ _ = zI (if i = T.2 then by1 x k else T.1 i)
  rw [g_p_a (by omega)]
  by_cases e : i = T.2
  · rw [if_pos e, e, g_p_eq]; exact ⟨by_lt, rfl⟩
  · rw [if_neg e, g_p_k e]; exact t3 i (by omega)
theorem ct_lay4 {K : bi_St → Prop} {E : Nat → bi_St → Prop} {T : Tp} (hm : T.2 + 4 ≤ 700) (hT : TpR s T.1 T.2) (k : ∀ t, fTr s t → TpR t (put4 T x).1 (put4 T x).2 → K t) : cV X d 168 [.ref 77, .int x] s K E := by
  refine en_X12_lays ?_
  show at_X12_lays_3 X d K E s x (zI 24)
  refine ct_lay1 (by omega) (by omega) hT (fun t1 f1 h1 => ?_)
  show at_X12_lays_3 X d K E t1 x (zI 16)
  refine ct_lay1 (by show T.2 + 1 < 700; omega) (by omega) h1 (fun t2 f2 h2 => ?_)
  show at_X12_lays_3 X d K E t2 x (zI 8)
  refine ct_lay1 (by show T.2 + 1 + 1 < 700; omega) (by omega) h2 (fun t3 f3 h3 => ?_)
  show at_X12_lays_3 X d K E t3 x (zI 0)
  refine ct_lay1 (by show T.2 + 1 + 1 + 1 < 700; omega) (by omega) h3 (fun t4 f4 h4 => go_X12_lays_3 ⟨fun _ => k t4 (((f1.trans f2).trans f3).trans f4) h4, fun z => absurd (show (zI 0 + (-8 : Int32)) < 0 by decide) z⟩)
theorem RRf_tp {t : bi_St} {T : Tp} (ho : okM M) (hR : RRf s M) (h : fTr s t) (hT : TpR t T.1 T.2) : RRf t (T, M.2) := by
  have g := h.2.1
  obtain ⟨_, hk, hst, ⟨l1, l2⟩, ⟨i1, i2⟩, h79, hf⟩ := hR
  exact ⟨hT, BkR_fr (fun q h1 h2 => g _ _ (by omega) (by omega)) (fun c q hc => g _ _ (by omega) (by omega)) hk, StR_fr ho.1.1.2 (g _ _ (by omega) (by omega)) (g _ _ (by omega) (by omega)) (fun k _ => g _ _ (by omega) (by omega)) (fun c k hc => g _ _ (by omega) (by omega)) hst, ⟨by rw [g _ _ (by omega) (by omega)]; exact l1, opt_mono (fun n hn => PlR_fr (fun c q hc => g _ _ (by omega) (by omega)) hn) l2⟩, ⟨by rw [g _ _ (by omega) (by omega)]; exact i1, opt_mono (fun x hx => ImR_fr ho.1.1.2 (fun c q hc => g _ _ (by omega) (by omega)) hx) i2⟩, fun i hi => by rw [g _ _ (by omega) (by omega)]; exact h79 i hi, by rw [g _ _ (by omega) (by omega)]; exact hf⟩
theorem cR_feed (ho : okM M) (hR : RRf s M) : CtR X (d + 1) 167 [.ref 77, .int x0, .int x1, .int x2, .int x3, .int x4] s M (oFeed M x0 x1 x2 x3 x4) := fun K kT kF => by
  have f0 : fsr s (st_p s 77 0 0) := fsr_0
  have h0 : st_g (st_p s 77 0 0) 77 0 = 0 := g_p_eq _ _ _ _
  have hT0 := RRf_sr ho hR f0
  refine en_X12_feed ?_
  generalize st_p s 77 0 (0 : Int32) = t at f0 h0 hT0
  have hT := hT0.1
  have hm := hT.1
  rw [hT.2.1, show zI M.1.2 + (20 : Int32) = zI (M.1.2 + 20) from zI_add _ 20, show (700 : Int32) = zI 700 from rfl, zI_le (by omega) (by omega)]
  refine ⟨fun h => ?_, fun h => kT _ M t (if_neg h) f0.1 h0 hT0⟩
  refine ct_lay4 (by omega) hT (fun t1 f1 h1 => ct_lay4 (by show M.1.2 + 4 + 4 ≤ 700; omega) h1 (fun t2 f2 h2 => ct_lay4 (by show M.1.2 + 4 + 4 + 4 ≤ 700; omega) h2 (fun t3 f3 h3 => ct_lay4 (by show M.1.2 + 4 + 4 + 4 + 4 ≤ 700; omega) h3 (fun t4 f4 h4 => ct_lay4 (by show M.1.2 + 4 + 4 + 4 + 4 + 4 ≤ 700; omega) h4 (fun t5 f5 h5 => ?_)))))
  have f := (((f1.trans f2).trans f3).trans f4).trans f5
  rw [h5.2.1]
  exact kT _ _ t5 (if_pos h) (f0.1.trans ⟨f.1, fun c k hc => f.2.1 c k (by omega) (by omega), f.2.2.1, f.2.2.2⟩) (by rw [f.2.1 _ _ (by omega) (by omega)]; exact h0) (RRf_tp ho hT0 f h5)
end V
end FEED
