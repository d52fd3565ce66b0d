/-! ===== the class reads a text ===== -/
section CTEXT
theorem CX_adv {s t : bi_St} {B : Nat → Nat} {N b a q q' sz lo : Nat} {T : Tx} (h : CX s B N b a T q sz lo) (ht : fr wTk s t) (hT : TB t B N) (hC : CT t B N q') (hq : q ≤ q') : CX t B N b a T q' sz lo := by
  obtain ⟨⟨_, _, h9⟩, ⟨g4, g5, hb, ha⟩, ⟨b0, b1, b2, b8⟩, hc, ⟨hE, hlo, hsz⟩, ⟨hp, hv⟩, hbits, hA⟩ := h
  have hbr := isB_r hb
  have har := isS_r ha
  have g : ∀ c k, c ≠ 1 → st_g t c k = st_g s c k := fun c k hh => ht.g (wTk_ne hh)
  have hKP : KP s t b (xp T) (xv T) := KP_same (g _ _ (by omega)) (g _ _ (by omega)) (fun j k h1 h2 => g _ _ (by omega))
  exact ⟨⟨hT, hC, by rw [ht.g rfl]; exact h9⟩, ⟨by rw [ht.2.1]; exact g4, by rw [ht.2.1]; exact g5, hb, ha⟩, ⟨by rw [g _ _ (by omega)]; exact b0, by rw [g _ _ (by omega)]; exact b1, by rw [g _ _ (by omega)]; exact b2, by rw [g _ _ (by omega)]; exact b8⟩, hc, ⟨RE_eq (fun k => g _ _ (by omega)) (fun k => g _ _ (by omega)) hE, by omega, hsz⟩, ⟨BKp_KP hKP hp, BKv_KP hKP hv⟩, ⟨fun i h1 h2 => by rw [g _ _ (by omega)]; exact hbits.1 i h1 h2, fun i h1 h2 => by rw [g _ _ (by omega)]; exact hbits.2 i h1 h2⟩, CA_eq (fun c k h1 h2 => g _ _ (by omega)) rfl (fun _ => rfl) rfl rfl (fun _ _ => rfl) hA⟩
/-- the policies that are on at first -/
def on0 (p : Nat) : Int32 := ((1 : Int32) <<< (zI p &&& 31)) - 1
/-- the class behind a text -/
def CE (s : bi_St) (b a : Nat) (T : Tx) : Prop :=
  (st_g s b 0 = zI (xC T) ∧ st_g s b 1 = zI (xR T) ∧ st_g s b 2 = zI (xp T) ∧ st_g s b 8 = zI (xv T)) ∧
  (1 ≤ xC T ∧ xC T ≤ 4 ∧ xR T ≤ 6 ∧ xn T ≤ 16 ∧ xp T ≤ 8 ∧ xv T ≤ 3) ∧
  (BKp s b (xC T) (xp T) (xf T) ∧ BKv s b (xC T) (xv T) (xg T)) ∧
  (st_g s (b + 8) 3 = zI 19 ∧ st_g s a 3 = on0 (xp T)) ∧ CA s a T
theorem ct_begin {X : bi_X} {d : Nat} {K : bi_St → Prop} {E : Nat → bi_St → Prop} {s : bi_St} {B : Nat → Nat} {N m : Nat} (hm : m ≤ 700) (hN : N ≤ m) (h1 : st_g s 1 1 = zI m) (hB : ∀ i, i < m → B i < 256 ∧ st_g s 2 i = sb (B i))
    (k : ∀ t, fg (fun c k => c = 1 ∧ 2 ≤ k) s t → (∀ i, st_gp t i = st_gp s i) → TB t B N → CT t B N 0 → st_g t 1 9 = 0 → st_g t 1 10 = -1 → K t) : cV X (d + 2) 93 [.ref 1, .int (zI N)] s K E := by
  have body : cV X (d + 1) 94 [.ref 1] (st_p (st_p (st_p (st_p (st_p (st_p s 1 2 (zI N)) 1 3 (0 : Int32)) 1 4 (0 : Int32)) 1 5 (0 : Int32)) 1 9 (0 : Int32)) 1 10 (-1 : Int32)) (fun (s2 : bi_St) => K s2) (fun _ _ => False) := by
    have f0 : fg (fun c k => c = 1 ∧ 2 ≤ k) s (st_p (st_p (st_p (st_p (st_p (st_p s 1 2 (zI N)) 1 3 (0 : Int32)) 1 4 (0 : Int32)) 1 5 (0 : Int32)) 1 9 (0 : Int32)) 1 10 (-1 : Int32)) := (((((fg.refl.p ⟨rfl, by omega⟩).p ⟨rfl, by omega⟩).p ⟨rfl, by omega⟩).p ⟨rfl, by omega⟩).p ⟨rfl, by omega⟩).p ⟨rfl, by omega⟩
    have u2 : st_g (st_p (st_p (st_p (st_p (st_p (st_p s 1 2 (zI N)) 1 3 (0 : Int32)) 1 4 (0 : Int32)) 1 5 (0 : Int32)) 1 9 (0 : Int32)) 1 10 (-1 : Int32)) 1 2 = zI N := by rw [g_p_k (by omega), g_p_k (by omega), g_p_k (by omega), g_p_k (by omega), g_p_k (by omega), g_p_eq]
    have u3 : st_g (st_p (st_p (st_p (st_p (st_p (st_p s 1 2 (zI N)) 1 3 (0 : Int32)) 1 4 (0 : Int32)) 1 5 (0 : Int32)) 1 9 (0 : Int32)) 1 10 (-1 : Int32)) 1 3 = 0 := by rw [g_p_k (by omega), g_p_k (by omega), g_p_k (by omega), g_p_k (by omega), g_p_eq]
    have u5 : st_g (st_p (st_p (st_p (st_p (st_p (st_p s 1 2 (zI N)) 1 3 (0 : Int32)) 1 4 (0 : Int32)) 1 5 (0 : Int32)) 1 9 (0 : Int32)) 1 10 (-1 : Int32)) 1 5 = 0 := by rw [g_p_k (by omega), g_p_k (by omega), g_p_eq]
    have u9 : st_g (st_p (st_p (st_p (st_p (st_p (st_p s 1 2 (zI N)) 1 3 (0 : Int32)) 1 4 (0 : Int32)) 1 5 (0 : Int32)) 1 9 (0 : Int32)) 1 10 (-1 : Int32)) 1 9 = 0 := by rw [g_p_k (by omega), g_p_eq]
    have u10 : st_g (st_p (st_p (st_p (st_p (st_p (st_p s 1 2 (zI N)) 1 3 (0 : Int32)) 1 4 (0 : Int32)) 1 5 (0 : Int32)) 1 9 (0 : Int32)) 1 10 (-1 : Int32)) 1 10 = -1 := g_p_eq _ _ _ _
    have ub : ∀ i, st_g (st_p (st_p (st_p (st_p (st_p (st_p s 1 2 (zI N)) 1 3 (0 : Int32)) 1 4 (0 : Int32)) 1 5 (0 : Int32)) 1 9 (0 : Int32)) 1 10 (-1 : Int32)) 2 i = st_g s 2 i := fun i => by rw [g_p_a (by omega), g_p_a (by omega), g_p_a (by omega), g_p_a (by omega), g_p_a (by omega), g_p_a (by omega)]
    have up : ∀ i, st_gp (st_p (st_p (st_p (st_p (st_p (st_p s 1 2 (zI N)) 1 3 (0 : Int32)) 1 4 (0 : Int32)) 1 5 (0 : Int32)) 1 9 (0 : Int32)) 1 10 (-1 : Int32)) i = st_gp s i := fun i => rfl
    generalize st_p (st_p (st_p (st_p (st_p (st_p s 1 2 (zI N)) 1 3 (0 : Int32)) 1 4 (0 : Int32)) 1 5 (0 : Int32)) 1 9 (0 : Int32)) 1 10 (-1 : Int32) = u at f0 u2 u3 u5 u9 u10 ub up
    have n3 : ¬ st_g u 1 3 = (3 : Int32) := by rw [u3]; decide
    refine en_X8_advance (en_X8_isSign ⟨fun _ => ⟨fun z => absurd rfl z, fun _ => en_X8_isSign ⟨fun _ => ⟨fun _ => ?_, fun z => absurd rfl z⟩, fun z => absurd n3 z⟩⟩, fun z => absurd n3 z⟩)
    have hTu : TB (st_p u 1 8 (st_g u 1 8 + 1)) B N := ⟨by omega, by rw [g_p_k (by omega)]; exact u2, fun i hi => ⟨(hB i (by omega)).1, by rw [g_p_a (by omega), ub]; exact (hB i (by omega)).2⟩⟩
    refine ct_scanC hTu (Nat.zero_le _) (by rw [g_p_k (by omega), u5]; rfl) (fun t ht hc _ => k t ((f0.p ⟨rfl, by omega⟩).tk ht (fun k h1 h2 => ⟨rfl, by omega⟩)) (fun i => by rw [ht.2.1, gp_p]; exact up i) (TB_tk ht hTu) hc ?_ ?_)
    · rw [ht.g rfl, g_p_k (by omega)]; exact u9
    · rw [ht.g rfl, g_p_k (by omega)]; exact u10
  refine en_X8_begin (en_J9_min_7cf53 ?_)
  rw [h1, zI_lt (by omega) (by omega)]
  exact ⟨fun z => by omega, fun _ => body⟩
theorem ct_clearS {X : bi_X} {d : Nat} {K : bi_St → Prop} {E : Nat → bi_St → Prop} {s : bi_St} {a : Nat} (ha : st_isS a) (k : ∀ t, fg (fun c k => (c = a ∧ (k = 0 ∨ k = 3 ∨ k = 4 ∨ k = 6 ∨ k = 7)) ∨ c = a + 2) s t → (∀ i, st_gp t i = st_gp s i) → st_g t a 0 = 0 → st_g t a 4 = 0 → st_g t a 6 = 0 → st_g t a 7 = 0 → (∀ r, r < 6 → st_g t (a + 2) r = 0) → K t) : cV X (d + 1) 71 [.ref a] s K E := by
  have loop : ∀ n i u, n + i = 6 → fg (fun c k => (c = a ∧ (k = 0 ∨ k = 3 ∨ k = 4 ∨ k = 6 ∨ k = 7)) ∨ c = a + 2) s u → (∀ i, st_gp u i = st_gp s i) → st_g u a 0 = 0 → st_g u a 4 = 0 → (∀ r, r < i → st_g u (a + 2) r = 0) → at_X6_clear_17 X (d + 1) K E u (zI i) a := by
    intro n
    induction n with
    | zero =>
      intro i u h1 fu up u0 u4 ur
      have e6 : ((6 : Int32) ≤ zI i) ↔ 6 ≤ i := zI_le (a := 6) (by omega) (by omega)
      refine go_X6_clear_17 ha ?_
      rw [e6]
      refine ⟨fun _ => en_X6_forgetSeen ha (k _ ((fu.p (Or.inl ⟨rfl, by omega⟩)).p (Or.inl ⟨rfl, by omega⟩)) (fun i => up i) ?_ ?_ ?_ (g_p_eq _ _ _ _) (fun r hr => ?_)), fun z => by omega⟩
      · rw [g_p_k (by omega), g_p_k (by omega)]; exact u0
      · rw [g_p_k (by omega), g_p_k (by omega)]; exact u4
      · rw [g_p_k (by omega), g_p_eq]
      · rw [g_p_a (by omega), g_p_a (by omega)]; exact ur r (by omega)
    | succ n ih =>
      intro i u h1 fu up u0 u4 ur
      have e6 : ((6 : Int32) ≤ zI i) ↔ 6 ≤ i := zI_le (a := 6) (by omega) (by omega)
      refine go_X6_clear_17 ha ?_
      rw [e6, zI_nat (by omega), zI_add1]
      refine ⟨fun z => by omega, fun _ => ⟨in_zI (by omega) (by omega), ih (i + 1) _ (by omega) (fu.p (Or.inr rfl)) (fun i => up i) ?_ ?_ (fun r hr => ?_)⟩⟩
      · rw [g_p_a (by omega)]; exact u0
      · rw [g_p_a (by omega)]; exact u4
      · rw [g_p]
        by_cases hri : r = i
        · rw [if_pos ⟨rfl, hri⟩]
        · rw [if_neg (fun z => hri z.2)]; exact ur r (by omega)
  refine en_X6_clear ha (loop 6 0 _ rfl (((fg.refl.p (Or.inl ⟨rfl, by omega⟩)).p (Or.inl ⟨rfl, by omega⟩)).p (Or.inl ⟨rfl, by omega⟩)) (fun i => rfl) ?_ ?_ (fun r hr => by omega))
  · rw [g_p_k (by omega), g_p_k (by omega), g_p_eq]
  · rw [g_p_eq]
theorem ct_clearB {X : bi_X} {d : Nat} {K : bi_St → Prop} {E : Nat → bi_St → Prop} {s : bi_St} {b : Nat} (hb : st_isB b) (k : ∀ t, fg (fun c k => (c = b ∧ (k ≤ 3 ∨ k = 8 ∨ k = 9)) ∨ (c = b + 8 ∧ 4 ≤ k)) s t → (∀ i, st_gp t i = st_gp s i) → st_g t b 0 = zI 2 → st_g t b 1 = 0 → st_g t b 2 = 0 → st_g t b 3 = 0 → st_g t b 8 = 0 → st_g t b 9 = 0 → st_g t (b + 8) 4 = 0 → st_g t (b + 8) 5 = 0 → st_g t (b + 8) 6 = 0 → K t) : cV X (d + 1) 1 [.ref b] s K E := by
  have y : ∀ k, (k ≤ 3 ∨ k = 8 ∨ k = 9) → (fun c k => (c = b ∧ (k ≤ 3 ∨ k = 8 ∨ k = 9)) ∨ (c = b + 8 ∧ 4 ≤ k)) b k := fun k hk => Or.inl ⟨rfl, hk⟩
  have z : ∀ k, 4 ≤ k → (fun c k => (c = b ∧ (k ≤ 3 ∨ k = 8 ∨ k = 9)) ∨ (c = b + 8 ∧ 4 ≤ k)) (b + 8) k := fun k hk => Or.inr ⟨rfl, hk⟩
  refine en_X0_clear hb (en_X5_clear (st_isR_B hb) (k _ (((((((((fg.refl.p (y 0 (by omega))).p (y 1 (by omega))).p (y 2 (by omega))).p (y 3 (by omega))).p (y 8 (by omega))).p (y 9 (by omega))).p (z 4 (by omega))).p (z 5 (by omega))).p (z 6 (by omega))) (fun i => rfl) ?_ ?_ ?_ ?_ ?_ ?_ ?_ ?_ (g_p_eq _ _ _ _)))
  · rw [g_p_a (by omega), g_p_a (by omega), g_p_a (by omega), g_p_k (by omega), g_p_k (by omega), g_p_k (by omega), g_p_k (by omega), g_p_k (by omega), g_p_eq]; rfl
  · rw [g_p_a (by omega), g_p_a (by omega), g_p_a (by omega), g_p_k (by omega), g_p_k (by omega), g_p_k (by omega), g_p_k (by omega), g_p_eq]
  · rw [g_p_a (by omega), g_p_a (by omega), g_p_a (by omega), g_p_k (by omega), g_p_k (by omega), g_p_k (by omega), g_p_eq]
  · rw [g_p_a (by omega), g_p_a (by omega), g_p_a (by omega), g_p_k (by omega), g_p_k (by omega), g_p_eq]
  · rw [g_p_a (by omega), g_p_a (by omega), g_p_a (by omega), g_p_k (by omega), g_p_eq]
  · rw [g_p_a (by omega), g_p_a (by omega), g_p_a (by omega), g_p_eq]
  · rw [g_p_k (by omega), g_p_k (by omega), g_p_eq]
  · rw [g_p_k (by omega), g_p_eq]
theorem ct_textL {X : bi_X} {d : Nat} {K : Int32 → bi_St → Prop} {E : Nat → bi_St → Prop} {s0 : bi_St} {B : Nat → Nat} {N b a : Nat} {r0 : Fl Tx}
    (kF : ∀ e t, r0 = .inl e → fg (wTx b a) s0 t → st_g t 1 9 = zI e.1 → st_g t 1 10 = zI e.2 → 1 ≤ e.1 → e.1 ≤ 3 → K 0 t)
    (kT : ∀ T t, r0 = .inr T → fg (wTx b a) s0 t → CE t b a T → K 1 t) :
    ∀ k i q T u sz lo, k + i = 701 → i ≤ q → fg (wTx b a) s0 u → CX u B N b a T q sz lo → r0 = lns B N k T q → at_X9_readText_59 X (d + 59) K E u 1 (zI i) := by
  have bad : ∀ e u i, i ≤ 700 → r0 = .inl e → fg (wTx b a) s0 u → st_gp u 4 = b → st_gp u 5 = a → st_isB b → st_isS a → st_g u 1 9 = zI e.1 → st_g u 1 10 = zI e.2 → 1 ≤ e.1 → e.1 ≤ 3 → at_X9_readText_209 X (d + 59) K E u (zI i) := by
    intro e u i hi hr fu u4 u5 hb ha u9 u10 e1 e3
    have har := isS_r ha
    have h218 : at_X9_readText_218 X (d + 59) K E u 0 := by
      refine go_X9_readText_218 ?_
      rw [u4, u5]
      refine ⟨ha, hb, rfl, kF e _ hr (fu.p (Or.inr (Or.inr (Or.inr (by omega))))) ?_ ?_ e1 e3⟩
      · rw [g_p_a (by omega)]; exact u9
      · rw [g_p_a (by omega)]; exact u10
    refine go_X9_readText_209 (go_X9_readText_59 ⟨fun _ => h218, fun _ => ⟨fun _ => h218, fun z => absurd rfl z⟩⟩)
  intro k
  induction k with
  | zero => intro i q T u sz lo h1 h2 fu hX _; have := hX.1.2.1.1; have := hX.1.1.1; omega
  | succ k ih =>
    intro i q T u sz lo h1 h2 fu hX hr
    have hX' := hX
    obtain ⟨⟨hT, hC, h9⟩, ⟨g4, g5, hb, ha⟩, ⟨b0, b1, b2, b8⟩, hc, ⟨hE, hlo, hsz⟩, ⟨hp, hv⟩, hbits, hA⟩ := hX
    have hbr := isB_r hb
    have har := isS_r ha
    have hN := hT.1
    have hqN := hC.1
    have hk3 := tK_le (B := B) (N := N) (q := q)
    have e7 : ((700 : Int32) ≤ zI i) ↔ 700 ≤ i := zI_le (a := 700) (by omega) (by omega)
    have e0 : (zI (tK B N q) = 0) ↔ tK B N q = 0 := zI_eq (b := 0) (by omega) (by omega)
    rw [lns] at hr
    have h218 : tK B N q = 0 → at_X9_readText_218 X (d + 59) K E u 1 := fun h0 => by
      rw [if_pos h0] at hr
      refine go_X9_readText_218 ?_
      rw [g4, g5, b2]
      have fu2 : fg (wTx b a) s0 (st_p u a 3 (((1 : Int32) <<< (zI (xp T) &&& 31)) - 1)) := fu.p (Or.inr (Or.inr (Or.inr (by omega))))
      have g : ∀ c k, (c ≠ a ∨ k ≠ 3) → st_g (st_p u a 3 (((1 : Int32) <<< (zI (xp T) &&& 31)) - 1)) c k = st_g u c k := fun c k hh => by rw [g_p, if_neg (by omega)]
      have hKP : KP u (st_p u a 3 (((1 : Int32) <<< (zI (xp T) &&& 31)) - 1)) b (xp T) (xv T) := KP_same (g _ _ (by omega)) (g _ _ (by omega)) (fun j k h1 h2 => g _ _ (by omega))
      obtain ⟨a1, a2, a3, a4, a5, a6, a7, a8⟩ := hA
      refine ⟨ha, hb, rfl, kT T _ hr fu2 ⟨⟨by rw [g _ _ (by omega)]; exact b0, by rw [g _ _ (by omega)]; exact b1, by rw [g _ _ (by omega)]; exact b2, by rw [g _ _ (by omega)]; exact b8⟩, hc, ⟨BKp_KP hKP hp, BKv_KP hKP hv⟩, ⟨?_, g_p_eq _ _ _ _⟩, ⟨by rw [g _ _ (by omega)]; exact a1, fun r hr => by rw [g _ _ (by omega)]; exact a2 r hr, a3, a4, fun r c h1 h2 => by rw [g _ _ (by omega)]; exact a5 r c h1 h2, by rw [g _ _ (by omega)]; exact a6, by rw [g _ _ (by omega)]; exact a7, by rw [g _ _ (by omega)]; exact a8⟩⟩⟩
      rw [g _ _ (by omega), hE.2.2.1, st_rnB hb]
    refine go_X9_readText_59 ?_
    rw [hC.2.1, e7, e0]
    refine ⟨fun z => h218 (tE_K hqN (by omega) hN), fun _ => ⟨fun z => absurd z (by decide), fun _ => ⟨h218, fun n0 => ?_⟩⟩⟩
    rw [if_neg n0] at hr
    have hadv := tok_adv (B := B) hqN n0
    have lF : ∀ e t, lin B N T q = .inl e → fg (wTx b a) u t → st_g t 1 9 = zI e.1 → st_g t 1 10 = zI e.2 → 1 ≤ e.1 → e.1 ≤ 3 → at_X9_readText_188 X (d + 59) K E t 0 (zI i) := by
      intro e t he ht t9 t10 e1 e3
      rw [he] at hr
      refine go_X9_readText_188 ⟨fun _ => bad e t i (by omega) hr (fu.trans ht) (by rw [ht.2.1 _ (by omega)]; exact g4) (by rw [ht.2.1 _ (by omega)]; exact g5) hb ha t9 t10 e1 e3, fun z => absurd rfl z⟩
    have lT : ∀ x t sz' lo', lin B N T q = .inr x → fg (wTx b a) u t → CX t B N b a x.1 x.2 sz' lo' → q < x.2 → at_X9_readText_188 X (d + 59) K E t 1 (zI i) := by
      intro x t sz' lo' he ht hXt hq
      rw [he] at hr
      simp only at hr
      refine go_X9_readText_188 ⟨fun z => absurd z (by decide), fun _ => ct_passS (d := d + 56) (c := 59) hXt.1.1 hXt.1.2.1 (by omega) (fun h59 w hw hTw hCw => ⟨fun z => absurd z (by decide), fun _ => ?_⟩) (fun h59 w hw w9 w10 => ⟨fun _ => ?_, fun z => absurd rfl z⟩)⟩
      · rw [if_pos h59] at hr
        have hE2 := tE_le (B := B) hXt.1.2.1.1
        rw [zI_add1]
        exact ih (i + 1) (tE B N x.2) x.1 w sz' lo' (by omega) (by omega) (fu.trans (ht.tk hw (fun k h1 h2 => Or.inl ⟨rfl, by omega⟩))) (CX_adv hXt hw hTw hCw hE2.1) hr
      · rw [if_neg h59] at hr
        exact bad (1, tS B N x.2) w i (by omega) hr (fu.trans (ht.trans (hw.mono wF_Tx))) (by rw [hw.2.1 _ (by omega)]; exact hXt.2.1.1) (by rw [hw.2.1 _ (by omega)]; exact hXt.2.1.2.1) hb ha w9 w10 (by show 1 ≤ 1; omega) (by show 1 ≤ 3; omega)
    have wd : ∀ j n, j < 25 → wPm j = n → ∀ K' : Int32 → bi_St → Prop, K' (b2i (decide (kn B N q = n))) u → cI X (d + 58) 96 [.ref 1, .ref (j + 5000)] u K' (fun _ _ => False) := fun j n hj hn K' hK => ct_isWord hT hC hj (by rw [hn]; exact hK)
    have no : ∀ n, (b2i (decide (kn B N q = n)) = 0) → ¬ kn B N q = n := fun n z => by rw [b2i_ne0] at z; simpa using z
    have yes : ∀ n, ¬ (b2i (decide (kn B N q = n)) = 0) → kn B N q = n := fun n z => by rw [b2i_ne0] at z; simpa using z
    refine wd 7 6 (by omega) rfl _ ⟨fun z6 => wd 8 7 (by omega) rfl _ ⟨fun z7 => wd 9 8 (by omega) rfl _ ⟨fun z8 => ?_, fun z8 => wd 10 9 (by omega) rfl _ ⟨fun z9 => wd 11 13 (by omega) rfl _ ⟨fun z13 => ?_, fun z13 => ?_⟩, fun z9 => ?_⟩⟩, fun z7 => ?_⟩, fun z6 => ?_⟩
    · exact go_X9_readText_148 (ct_readPolicy (d := d) hX' (Or.inl (yes _ z8)) lF lT)
    · have n6 := no _ z6; have n7 := no _ z7; have n8 := no _ (Decidable.of_not_not z8); have n9 := no _ z9; have n13 := no _ z13
      refine ct_refC (f := 1) hC (fun t ht t9 t10 => lF (1, tS B N q) t ?_ (ht.mono wF_Tx) t9 t10 (by show 1 ≤ 1; omega) (by show 1 ≤ 3; omega))
      unfold lin; rw [if_neg n6, if_neg n7, if_neg (by omega), if_neg n13]
    · exact ct_readView (d := d) hX' (yes _ z13) lF lT
    · exact go_X9_readText_148 (ct_readPolicy (d := d) hX' (Or.inr (yes _ z9)) lF lT)
    · exact ct_readRow (d := d + 55) hX' (yes _ z7) lF lT
    · exact ct_readRole (d := d + 55) hX' (yes _ z6) lF lT
end CTEXT
