/-! ===== a query's steps are laid, of the class ===== -/
section LAY
/-- a rule with its cost (its length) and whether it is silent -/
def rx (s : bi_St) (b C n : Nat) (P : Lp) (sil : Bool) : Prop := rl s b C n P ∧ st_g s (b + 3) n = zI P.length ∧ tb (st_g s b 6) n = sil
theorem rl_le {s : bi_St} {b C n : Nat} {P : Lp} (h : rl s b C n P) : P.length ≤ 700 ∧ n < 19 ∧ n < st_rn b := by
  obtain ⟨lo, sz, h1, h2, h3, h4, h5, h6, -⟩ := h
  have := st_rn_le (b := b)
  omega
theorem rx_fr {s t : bi_St} {b C n : Nat} {P : Lp} {sil : Bool} (h : ∀ a k, b ≤ a → a ≤ b + 3 → st_g t a k = st_g s a k) (hr : rx s b C n P sil) : rx t b C n P sil :=
  ⟨rl_fr h hr.1, by rw [h _ _ (by omega) (by omega)]; exact hr.2.1, by rw [h _ _ (by omega) (by omega)]; exact hr.2.2⟩
theorem ct_isRule {X : bi_X} {d : Nat} {K : Int32 → bi_St → Prop} {E : Nat → bi_St → Prop} {s : bi_St} {b C n : Nat} {P : Lp} (hb : st_isR b) (hr : rl s b C n P) (k : K 1 s) : cI X d 66 [.ref b, .int (zI n)] s K E := by
  have := rl_le hr
  obtain ⟨lo, sz, h1, h2, h3, h4, h5, h6, -⟩ := hr
  have := st_rn_le (b := b)
  refine en_X5_isRule hb ⟨fun z => absurd z (zI_nn (by omega)), fun _ => ⟨fun z => ?_, fun _ => k⟩⟩
  rw [h1, zI_le (by omega) (by omega)] at z; omega
theorem ct_costOf {X : bi_X} {d : Nat} {K : Int32 → bi_St → Prop} {E : Nat → bi_St → Prop} {s : bi_St} {b C n : Nat} {P : Lp} (hb : st_isR b) (hr : rl s b C n P) (k : K (st_g s (b + 3) n) s) : cI X (d + 1) 68 [.ref b, .int (zI n)] s K E := by
  have := rl_le hr
  refine en_X5_costOf hb (ct_isRule hb hr ⟨fun z => absurd z (by decide), fun _ => ⟨in_zI this.2.2 (by have := st_rn_le (b := b); omega), ?_⟩⟩)
  rw [zI_nat (by omega)]; exact k
theorem ct_costOfN {X : bi_X} {d : Nat} {K : Int32 → bi_St → Prop} {E : Nat → bi_St → Prop} {s : bi_St} {b : Nat} (hb : st_isR b) (k : K (-1) s) : cI X (d + 1) 68 [.ref b, .int (-1)] s K E := by
  refine en_X5_costOf hb (en_X5_isRule hb ⟨fun _ => ⟨fun _ => k, fun z => absurd rfl z⟩, fun z => absurd (by decide) z⟩)
theorem ct_isSilent {X : bi_X} {d : Nat} {K : Int32 → bi_St → Prop} {E : Nat → bi_St → Prop} {s : bi_St} {b C n : Nat} {P : Lp} (hb : st_isR b) (hr : rl s b C n P) (k : K (b2i (tb (st_g s b 6) n)) s) : cI X (d + 1) 69 [.ref b, .int (zI n)] s K E := by
  have := rl_le hr
  refine en_X5_isSilent hb (ct_isRule hb hr ⟨fun z => absurd z (by decide), fun _ => ct_bit (by omega) ?_⟩)
  rw [b2i_eq1]
  refine ⟨fun h => ?_, fun h => ?_⟩
  · rw [show tb (st_g s b 6) n = false by simpa using h] at k; exact k
  · rw [Decidable.of_not_not h] at k; exact k
theorem ct_follow {X : bi_X} {d : Nat} {K : bi_St → Prop} {E : Nat → bi_St → Prop} {s : bi_St} {b C n pl : Nat} {P : Lp} {sil : Bool} (hb : st_isR b) (hpl : st_isp pl) (hr : rx s b C n P sil) (k : K (st_p (st_p (st_p s pl 4 (zI n)) pl 2 (zI P.length)) pl 5 (b2i sil))) : cV X (d + 2) 88 [.ref pl, .ref b, .int (zI n)] s K E := by
  have hge := isp_ge hpl
  have hb' : b + 3 ≤ 30 := by rcases hb with z | z | z <;> omega
  have h1 : rx (st_p s pl 4 (zI n)) b C n P sil := rx_fr (fun a k _ _ => g_p_a (by omega)) hr
  have h2 : rx (st_p (st_p s pl 4 (zI n)) pl 2 (zI P.length)) b C n P sil := rx_fr (fun a k _ _ => g_p_a (by omega)) h1
  refine en_X7_follow hpl hb (ct_costOf hb h1.1 ?_)
  rw [h1.2.1]
  refine ct_isSilent hb h2.1 ⟨b2i_bool _, ?_⟩
  rw [h2.2.2]; exact k
/-- views: owner, barrier, of, silent, where -/
abbrev Vw : Type := Int32 × Bool × Int32 × Bool × Lp
def vok (g : Nat → Vw) (v : Nat) : Prop := v ≤ 3 ∧ ∀ w, w < v → ((g w).1 = -1 ∨ ∃ r, r < 6 ∧ (g w).1 = zI r) ∧ ((g w).2.2.1 = -1 ∨ ∃ q, q < w ∧ (g w).2.2.1 = zI q)
def VC (s : bi_St) (b C v : Nat) (g : Nat → Vw) : Prop := st_g s b 8 = zI v ∧ ∀ w, w < v → st_g s (b + 5) w = (g w).1 ∧ tb (st_g s b 9) w = (g w).2.1 ∧ st_g s (b + 6) w = (g w).2.2.1 ∧ ∃ n, st_g s (b + 7) w = zI n ∧ rx s (b + 8) C n (g w).2.2.2.2 (g w).2.2.2.1
theorem VC_fr {s t : bi_St} {b C v : Nat} {g : Nat → Vw} (h : ∀ a k, b ≤ a → a ≤ b + 11 → st_g t a k = st_g s a k) (hv : VC s b C v g) : VC t b C v g := by
  refine ⟨by rw [h _ _ (by omega) (by omega)]; exact hv.1, fun w hw => ?_⟩
  obtain ⟨c1, c2, c3, n, c4, c5⟩ := hv.2 w hw
  exact ⟨by rw [h _ _ (by omega) (by omega)]; exact c1, by rw [h _ _ (by omega) (by omega)]; exact c2, by rw [h _ _ (by omega) (by omega)]; exact c3, n, by rw [h _ _ (by omega) (by omega)]; exact c4, rx_fr (fun a k h1 h2 => h _ _ (by omega) (by omega)) c5⟩
def asOf (g : Nat → Vw) (w as : Nat) : Nat := if (g w).1 = -1 then as else (g w).1.toNatClampNeg
def chn (g : Nat → Vw) : Nat → Int32 → Nat → List (Nat × Nat)
  | 0, _, _ => []
  | n + 1, t, as => if t = -1 then [] else (t.toNatClampNeg, asOf g t.toNatClampNeg as) :: chn g n (g t.toNatClampNeg).2.2.1 (asOf g t.toNatClampNeg as)
def tasF : List (Nat × Nat) → Nat → Nat
  | [], as => as
  | e :: M, _ => tasF M e.2
/-- a view below n, or none -/
def tok (v n : Nat) (t : Int32) : Prop := t = -1 ∨ ∃ w, w < n ∧ w < v ∧ t = zI w
def mkV (g : Nat → Vw) (e : Nat × Nat) : Sp := (1, zI e.1, (g e.1).2.2.2.2.length, (g e.1).2.2.2.1, e.2, some (g e.1).2.2.2.2, (g e.1).2.1)
def mkD (u i : Nat) (D : Lp × Bool) : Sp := (2, zI i, D.1.length, D.2, u, some D.1, false)
theorem asOf_lt {g : Nat → Vw} {v w as : Nat} (hg : vok g v) (hw : w < v) (has : as < 6) : asOf g w as < 6 := by
  unfold asOf
  rcases (hg.2 w hw).1 with h | ⟨r, h1, h2⟩
  · rw [if_pos h]; exact has
  · rw [h2, if_neg (zI_m1 (by omega)), zI_nat (by omega)]; exact h1
theorem chn_m1 {g : Nat → Vw} {n as : Nat} : chn g n (-1) as = [] := by
  cases n with
  | zero => rfl
  | succ n => rw [chn, if_pos rfl]
theorem chn_c {g : Nat → Vw} {n w as : Nat} (hw : w < 2147483648) : chn g (n + 1) (zI w) as = (w, asOf g w as) :: chn g n (g w).2.2.1 (asOf g w as) := by
  rw [chn, if_neg (zI_m1 hw), zI_nat hw]
theorem chn_len {g : Nat → Vw} : ∀ n t as, (chn g n t as).length ≤ n := by
  intro n
  induction n with
  | zero => intro t as; exact Nat.le_refl 0
  | succ n ih =>
    intro t as
    rw [chn]
    by_cases h : t = -1
    · rw [if_pos h]; simp
    · rw [if_neg h, List.length_cons]; exact Nat.succ_le_succ (ih _ _)
theorem tok_of {g : Nat → Vw} {v n w : Nat} (hg : vok g v) (hw : w < v) (hn : w < n + 1) : tok v n (g w).2.2.1 := by
  rcases (hg.2 w hw).2 with h | ⟨q, h1, h2⟩
  · exact Or.inl h
  · exact Or.inr ⟨q, by omega, by omega, h2⟩
theorem tasF_lt {g : Nat → Vw} {v : Nat} (hg : vok g v) : ∀ n t as, tok v n t → as < 6 → tasF (chn g n t as) as < 6 := by
  intro n
  induction n with
  | zero => intro t as _ h; exact h
  | succ n ih =>
    intro t as ht has
    rcases ht with h | ⟨w, h1, h2, h3⟩
    · subst h; rw [chn_m1]; exact has
    · subst h3
      have := hg.1
      rw [chn_c (by omega), tasF]
      exact ih _ _ (tok_of hg h2 h1) (asOf_lt hg h2 has)
theorem ct_viewsDown {X : bi_X} {d : Nat} {K : Int32 → bi_St → Prop} {E : Nat → bi_St → Prop} {s : bi_St} {b C v : Nat} {g : Nat → Vw} (hb : st_isB b) (hv : VC s b C v g) (hg : vok g v) :
    ∀ n m t as, n + m = 3 → tok v n t → K (zI (m + (chn g n t as).length)) s → at_X3_viewsDownFrom_4 X d K E s (zI m) t b := by
  intro n
  induction n with
  | zero =>
    intro m t as hnm ht k
    rcases ht with h | ⟨w, h1, -⟩
    · subst h
      exact go_X3_viewsDownFrom_4 hb ⟨fun _ => k, fun z => absurd (by decide) z⟩
    · omega
  | succ n ih =>
    intro m t as hnm ht k
    rcases ht with h | ⟨w, h1, h2, h3⟩
    · subst h
      rw [chn_m1] at k
      exact go_X3_viewsDownFrom_4 hb ⟨fun _ => k, fun z => absurd (by decide) z⟩
    · subst h3
      have hv3 := hg.1
      rw [chn_c (by omega), List.length_cons] at k
      refine go_X3_viewsDownFrom_4 hb ⟨fun z => absurd z (zI_nn (by omega)), fun _ => ⟨fun z => ?_, fun _ => ⟨fun z => ?_, fun _ => ⟨in_zI (by omega) (by omega), ?_⟩⟩⟩⟩
      · have := (zI_le (a := 3) (by omega) (by omega)).mp z; omega
      · have := (zI_le (a := 3) (by omega) (by omega)).mp z; omega
      · rw [zI_nat (by omega), zI_add1, (hv.2 w h2).2.2.1]
        refine ih (m + 1) _ (asOf g w as) (by omega) (tok_of hg h2 h1) ?_
        rw [show m + 1 + (chn g n (g w).2.2.1 (asOf g w as)).length = m + ((chn g n (g w).2.2.1 (asOf g w as)).length + 1) by omega]; exact k
/-- what laying may change of the class -/
def wLy (a k : Nat) : Bool := wA a k || (Nat.beq a 65 || (Nat.ble 67 a && Nat.ble a 75))
theorem wLy_isp {a k : Nat} (h : st_isp a) : wLy a k = true := by
  rcases h with rfl | rfl | rfl | rfl | rfl | rfl | rfl | rfl | rfl <;> unfold wLy <;> simp
theorem wLy_lo {a k : Nat} (h : a ≤ 58) (h1 : a ≠ 57) : wLy a k = false := by
  unfold wLy
  rw [wA_ne (by omega) (by omega) h1, beq_ne (show a ≠ 65 by omega), ble_f (show a < 67 by omega)]; rfl
theorem wA_wLy (a k : Nat) (h : wA a k = true) : wLy a k = true := by unfold wLy; rw [h]; rfl
def QQ (s : bi_St) (b C a : Nat) (x : Sp) : Prop := QS s b C a x ∧ st_g s a 7 = 0 ∧ st_g s a 8 = 0
theorem QQ_fr {s t : bi_St} {b C a : Nat} {x : Sp} (hb : b ≤ 19) (h1 : ∀ k, st_g t a k = st_g s a k) (h2 : ∀ c k, c ≤ 30 → st_g t c k = st_g s c k) (h : QQ s b C a x) : QQ t b C a x := by
  obtain ⟨⟨c1, c2, c3, c4, c5, c6, c7, c8, c9, c10, c11⟩, h7, h8⟩ := h
  unfold QQ QS
  simp only [h1]
  exact ⟨⟨c1, c2, c3, c4, c5, c6, c7, c8, c9, fun h => rlo_fr (fun c k _ _ => h2 c k (by omega)) (c10 h), fun h => rlo_fr (fun c k _ _ => h2 c k (by omega)) (c11 h)⟩, h7, h8⟩
/-- a step that is set, follows a rule -/
theorem QQ_set {s : bi_St} {b C pl n as : Nat} {kd bb : Nat} {wh : Int32} {P : Lp} {sil bar : Bool} (hpl : st_isp pl) (hkd : (kd = 1 ∧ bb = b + 8) ∨ (kd = 2 ∧ bb = 3)) (hb : b ≤ 19) (has : as < 6) (hr : rx s bb C n P sil) :
    QQ (st_p (st_p (st_p (st_p (st_p (st_p (st_p (st_p (st_p (st_p (st_p (st_p s pl 0 (zI kd)) pl 1 wh) pl 3 (zI as)) pl 4 (-1 : Int32)) pl 5 (0 : Int32)) pl 6 (0 : Int32)) pl 7 (0 : Int32)) pl 8 (0 : Int32)) pl 4 (zI n)) pl 2 (zI P.length)) pl 5 (b2i sil)) pl 6 (b2i bar)) b C pl (kd, wh, P.length, sil, as, some P, bar) := by
  have hge := isp_ge hpl
  have hbb : bb + 3 ≤ 30 := by omega
  have hP := rl_le hr.1
  have hr2 : ∀ t : bi_St, (∀ c k, c ≤ 30 → st_g t c k = st_g s c k) → rl t bb C n P := fun t ht => rl_fr (fun c k _ _ => ht c k (by omega)) hr.1
  have g4 : st_g (st_p (st_p (st_p (st_p (st_p (st_p (st_p (st_p (st_p (st_p (st_p (st_p s pl 0 (zI kd)) pl 1 wh) pl 3 (zI as)) pl 4 (-1 : Int32)) pl 5 (0 : Int32)) pl 6 (0 : Int32)) pl 7 (0 : Int32)) pl 8 (0 : Int32)) pl 4 (zI n)) pl 2 (zI P.length)) pl 5 (b2i sil)) pl 6 (b2i bar)) pl 4 = zI n := by
    simp [g_p]
  have lo : ∀ c k, c ≤ 30 → st_g (st_p (st_p (st_p (st_p (st_p (st_p (st_p (st_p (st_p (st_p (st_p (st_p s pl 0 (zI kd)) pl 1 wh) pl 3 (zI as)) pl 4 (-1 : Int32)) pl 5 (0 : Int32)) pl 6 (0 : Int32)) pl 7 (0 : Int32)) pl 8 (0 : Int32)) pl 4 (zI n)) pl 2 (zI P.length)) pl 5 (b2i sil)) pl 6 (b2i bar)) c k = st_g s c k := fun c k hc => by
    iterate 12 rw [g_p_a (by omega)]
  refine ⟨⟨?_, ?_, has, ?_, ?_, ?_, ?_, ?_, ?_, fun h => ?_, fun h => ?_⟩, ?_, ?_⟩
  · show kd ≤ 2; omega
  · show P.length < _; omega
  · simp [g_p]
  · simp [g_p]
  · simp [g_p]
  · simp [g_p]
  · simp [g_p]
  · simp [g_p]
  · have h : kd = 1 := h
    rw [g4]
    obtain rfl : bb = b + 8 := by omega
    exact ⟨n, rfl, hr2 _ lo⟩
  · have h : kd = 2 := h
    rw [g4]
    obtain rfl : bb = 3 := by omega
    exact ⟨n, rfl, hr2 _ lo⟩
  · simp [g_p]
  · simp [g_p]
theorem zI_sub1' {n : Nat} (h : 1 ≤ n) : zI n + (-1 : Int32) = zI (n - 1) := by
  have : zI n = zI (n - 1) + 1 := by rw [zI_add1]; congr 1; omega
  rw [this, Int32.add_assoc]
  show zI (n - 1) + 0 = _
  rw [Int32.add_zero]
theorem ct_layWheresL {X : bi_X} {d : Nat} {K : Int32 → bi_St → Prop} {E : Nat → bi_St → Prop} {s : bi_St} {b C v m : Nat} {g : Nat → Vw} {c : List (Nat × Nat)} (hb : st_isB b) (hv : VC s b C v g) (hg : vok g v) (hp1 : ∀ i, i < 9 → st_isp (st_gp s (10 + i))) (hp2 : ∀ i j, i < 9 → j < 9 → st_gp s (10 + i) = st_gp s (10 + j) → i = j) (hc : c.length = m) (hm : m ≤ 3) {W : Nat → Nat → Bool} (hW : ∀ pl k, st_isp pl → W pl k = true) (hW2 : ∀ a k, a ≤ 30 → W a k = false) :
    ∀ n k tgt as (t : bi_St), n + k = 3 → tok v n tgt → as < 6 → c.drop k = chn g n tgt as → k ≤ m → fr W s t → (∀ j e, j < k → c[j]? = some e → QQ t b C (st_gp s (10 + (m - j))) (mkV g e)) →
      (∀ t, fr W s t → (∀ j e, c[j]? = some e → QQ t b C (st_gp s (10 + (m - j))) (mkV g e)) → K (zI (tasF (chn g n tgt as) as)) t) → at_X3_layWheres_10 X (d + 3) K E t (zI as) tgt (zI (m - k)) b := by
  have hb19 : b ≤ 19 := by rcases hb with z | z <;> omega
  have hb8 : st_isR (b + 8) := by rcases hb with z | z <;> subst z; exact Or.inr (Or.inl rfl); exact Or.inr (Or.inr rfl)
  have stop : ∀ n k tgt as (t : bi_St), c.drop k = chn g n tgt as → chn g n tgt as = [] → k ≤ m → fr W s t → (∀ j e, j < k → c[j]? = some e → QQ t b C (st_gp s (10 + (m - j))) (mkV g e)) → (∀ t, fr W s t → (∀ j e, c[j]? = some e → QQ t b C (st_gp s (10 + (m - j))) (mkV g e)) → K (zI (tasF (chn g n tgt as) as)) t) → m - k = 0 ∧ K (zI as) t := by
    intro n k tgt as t hd he hk ht hq kk
    rw [he] at hd kk
    have hl : c.length - k = 0 := by have := congrArg List.length hd; rw [List.length_drop] at this; exact this
    refine ⟨by omega, kk t ht (fun j e hj => hq j e ?_ hj)⟩
    have := (List.getElem?_eq_some_iff.mp hj).1; omega
  intro n
  induction n with
  | zero =>
    intro k tgt as t hnk ht has hd hk hf hq kk
    obtain ⟨h0, kk⟩ := stop 0 k tgt as t hd rfl hk hf hq kk
    rw [h0]
    exact go_X3_layWheres_10 hb ⟨fun _ => go_X3_layWheres_130 kk, fun z => absurd (by decide) z⟩
  | succ n ih =>
    intro k tgt as t hnk ht has hd hk hf hq kk
    rcases ht with h | ⟨w, h1, h2, h3⟩
    · subst h
      obtain ⟨h0, kk⟩ := stop (n + 1) k _ as t hd chn_m1 hk hf hq kk
      rw [h0]
      exact go_X3_layWheres_10 hb ⟨fun _ => go_X3_layWheres_130 kk, fun z => absurd (by decide) z⟩
    · subst h3
      have hv3 := hg.1
      rw [chn_c (by omega)] at hd kk
      rw [tasF] at kk
      obtain ⟨hce, hd', hkl⟩ := drop_cons hd.symm
      have htv : VC t b C v g := VC_fr (fun a k _ _ => hf.g (hW2 _ _ (by omega))) hv
      obtain ⟨e1, e2, e3, nn, e4, e5⟩ := htv.2 w h2
      obtain ⟨pl, epl⟩ : ∃ pl, pl = st_gp s (10 + (m - k)) := ⟨_, rfl⟩
      have hpl : st_isp pl := by rw [epl]; exact hp1 _ (by omega)
      have hge := isp_ge hpl
      have hin3 : bi_in (zI w) 3 = true := in_zI (by omega) (by omega)
      have hin9 : bi_in (zI (m - k)) 9 = true := in_zI (by omega) (by omega)
      have gpt : ∀ u : bi_St, (∀ i, st_gp u i = st_gp t i) → st_gp u (10 + (m - k)) = pl := fun u hu => by rw [hu, hf.gp, epl]
      have step : ∀ av, av = asOf g w as → cV X (d + 2) 87 [.ref pl, .int (1 : Int32), .int (zI w), .int (zI av)] t (fun (s4 : bi_St) => bi_in (zI (m - k)) 9 = true ∧ (st_isp (st_gp s4 (10 + (m - k))) ∧ (bi_in (zI w) 3 = true ∧ (cV X (d + 2) 88 [.ref (st_gp s4 (10 + (m - k))), .ref (b + 8), .int (st_g s4 (b + 7) w)] s4 (fun (s5 : bi_St) => bi_in (zI (m - k)) 9 = true ∧ (st_isp (st_gp s5 (10 + (m - k))) ∧ (cI X (d + 2) 160 [.int (st_g s5 b 9), .int (zI w)] s5 (fun (r6 : Int32) (s6 : bi_St) => ((¬ r6 = (1 : Int32)) → bi_in (zI w) 3 = true ∧ (at_X3_layWheres_10 X (d + 2 + 1) K E (st_p s6 (st_gp s5 (10 + (m - k))) 6 (0 : Int32)) (zI av) ((st_g (st_p s6 (st_gp s5 (10 + (m - k))) 6 (0 : Int32)) (b + 6) w)) ((zI (m - k) + (-1 : Int32))) (b))) ∧ (¬ (¬ r6 = (1 : Int32)) → bi_in (zI w) 3 = true ∧ (at_X3_layWheres_10 X (d + 2 + 1) K E (st_p s6 (st_gp s5 (10 + (m - k))) 6 (1 : Int32)) (zI av) ((st_g (st_p s6 (st_gp s5 (10 + (m - k))) 6 (1 : Int32)) (b + 6) w)) ((zI (m - k) + (-1 : Int32))) (b)))) (fun _ _ => False)))) (fun _ _ => False))))) (fun _ _ => False) := by
        intro av hav
        have hav6 : av < 6 := by rw [hav]; exact asOf_lt hg h2 has
        refine en_X7_set hpl ?_
        obtain ⟨s4, hs4⟩ : ∃ s4, s4 = st_p (st_p (st_p (st_p (st_p (st_p (st_p (st_p t pl 0 (1 : Int32)) pl 1 (zI w)) pl 3 (zI av)) pl 4 (-1 : Int32)) pl 5 (0 : Int32)) pl 6 (0 : Int32)) pl 7 (0 : Int32)) pl 8 (0 : Int32) := ⟨_, rfl⟩
        have lo4 : ∀ a k, a ≤ 30 → st_g s4 a k = st_g t a k := fun a k ha => by
          rw [hs4]; iterate 8 rw [g_p_a (by omega)]
        have gp4 : st_gp s4 (10 + (m - k)) = pl := gpt s4 (fun i => by rw [hs4]; rfl)
        have f4 : fr W s s4 := by
          rw [hs4]
          exact (((((((hf.p (hW _ _ hpl)).p (hW _ _ hpl)).p (hW _ _ hpl)).p (hW _ _ hpl)).p (hW _ _ hpl)).p (hW _ _ hpl)).p (hW _ _ hpl)).p (hW _ _ hpl)
        have hr4 : rx s4 (b + 8) C nn (g w).2.2.2.2 (g w).2.2.2.1 := rx_fr (fun a k _ _ => lo4 a k (by omega)) e5
        rw [← hs4, gp4, lo4 _ _ (by omega), e4]
        refine ⟨hin9, hpl, hin3, ct_follow hb8 hpl hr4 ?_⟩
        obtain ⟨s5, hs5⟩ : ∃ s5, s5 = st_p (st_p (st_p s4 pl 4 (zI nn)) pl 2 (zI (g w).2.2.2.2.length)) pl 5 (b2i (g w).2.2.2.1) := ⟨_, rfl⟩
        have lo5 : ∀ a k, a ≤ 30 → st_g s5 a k = st_g t a k := fun a k ha => by
          rw [hs5]; iterate 3 rw [g_p_a (by omega)]
          exact lo4 a k ha
        have gp5 : st_gp s5 (10 + (m - k)) = pl := gpt s5 (fun i => by rw [hs5, hs4]; rfl)
        have f5 : fr W s s5 := by rw [hs5]; exact ((f4.p (hW _ _ hpl)).p (hW _ _ hpl)).p (hW _ _ hpl)
        rw [← hs5, gp5, lo5 _ _ (by omega)]
        refine ⟨hin9, hpl, ct_bit (by omega) ?_⟩
        rw [e2, b2i_eq1, zI_sub1' (by omega), show m - k - 1 = m - (k + 1) by omega]
        have fin : ∀ bv, bv = b2i (g w).2.1 → at_X3_layWheres_10 X (d + 3) K E (st_p s5 pl 6 bv) (zI av) (st_g (st_p s5 pl 6 bv) (b + 6) w) (zI (m - (k + 1))) b := by
          intro bv hbv
          have f6 : fr W s (st_p s5 pl 6 bv) := f5.p (hW _ _ hpl)
          rw [g_p_a (by omega), lo5 _ _ (by omega), e3]
          subst hav
          refine ih (k + 1) _ _ _ (by omega) (tok_of hg h2 h1) hav6 hd'.symm (by omega) f6 (fun j e hj hje => ?_) kk
          by_cases hjk : j = k
          · subst hjk
            rw [hce] at hje
            injection hje with hje
            subst hje
            rw [← epl]
            subst hbv
            rw [hs5, hs4]
            exact QQ_set (kd := 1) (b := b) hpl (Or.inl ⟨rfl, rfl⟩) hb19 hav6 e5
          · have hjm : j < m := by omega
            have hne : st_gp s (10 + (m - j)) ≠ pl := fun h => by
              have := hp2 (m - j) (m - k) (by omega) (by omega) (by rw [h, epl]); omega
            refine QQ_fr hb19 (fun q => ?_) (fun c q hcq => ?_) (hq j e (by omega) hje)
            · rw [hs5, hs4]; iterate 12 rw [g_p_a hne]
            · rw [g_p_a (by omega)]; exact lo5 c q hcq
        refine ⟨fun hbr => ⟨hin3, fin 0 ?_⟩, fun hbr => ⟨hin3, fin 1 ?_⟩⟩
        · rw [show (g w).2.1 = false by simpa using hbr]; rfl
        · rw [Decidable.of_not_not hbr]; rfl
      refine go_X3_layWheres_10 hb ⟨fun z => ?_, fun _ => ⟨fun z => absurd z (zI_nn (by omega)), fun _ => ⟨fun z => ?_, fun _ => ?_⟩⟩⟩
      · have := (zI_le (b := 0) (show m - k < 2147483648 by omega) (by omega)).mp z; omega
      · have := (zI_le (a := 3) (by omega) (by omega)).mp z; omega
      · rw [zI_nat (a := w) (by omega), zI_nat (a := m - k) (by omega), e1, gpt t (fun _ => rfl)]
        refine ⟨hin3, fun ho => ⟨hin3, hin9, hpl, ?_⟩, fun ho => ⟨hin9, hpl, ?_⟩⟩
        · rcases (hg.2 w h2).1 with h | ⟨r, hr1, hr2⟩
          · exact absurd h ho
          · have hav : asOf g w as = r := by unfold asOf; rw [if_neg ho, hr2, zI_nat (by omega)]
            rw [hr2]
            exact step r hav.symm
        · exact step as (by unfold asOf; rw [if_pos (Decidable.of_not_not ho)])
end LAY
