/-! ===== the class reads a rule ===== -/
section RULE
def m0 (q : Nat) : Ms := (some (true, 0), (q, [], [], fun _ => false, 1, true))
/-- rules so far: sz of them, lo operations -/
def RE (s : bi_St) (b sz lo : Nat) : Prop := st_isR b ∧ sz ≤ st_rn b ∧ st_g s b 3 = zI (st_rn b) ∧ st_g s b 5 = zI sz ∧ st_g s b 4 = zI lo ∧ lo ≤ 700 ∧ (sz = 0 → lo = 0) ∧ (0 < sz → st_g s (b + 2) (sz - 1) = zI lo) ∧ (∀ n, n < sz → ∃ e, st_g s (b + 2) n = zI e ∧ e ≤ lo) ∧ (∀ n, sz ≤ n → n < 32 → tb (st_g s b 6) n = false)
def wRr (b lo sz a k : Nat) : Bool := wRs b lo a k || ((Nat.beq a b && (Nat.ble 4 k && Nat.ble k 6)) || ((Nat.beq a (b + 2) || Nat.beq a (b + 3)) && Nat.beq k sz))
theorem wRs_wRr {b lo sz : Nat} (a k : Nat) (h : wRs b lo a k = true) : wRr b lo sz a k = true := by unfold wRr; rw [h]; rfl
theorem wRr_ne {b lo sz a k : Nat} (h1 : a ≠ 1) (h2 : a ≠ 44 ∨ k ≠ 4) (h3 : a ≠ b + 1 ∨ k < lo) (h4 : a ≠ b ∨ k < 4) (h5 : (a ≠ b + 2 ∧ a ≠ b + 3) ∨ k ≠ sz) : wRr b lo sz a k = false := by
  unfold wRr
  rw [wRs_ne h1 h2 h3 (by omega)]
  have e4 : (Nat.beq a b && (Nat.ble 4 k && Nat.ble k 6)) = false := by
    rcases h4 with h | h
    · rw [beq_ne h]; rfl
    · rw [ble_f h, Bool.false_and, Bool.and_false]
  have e5 : ((Nat.beq a (b + 2) || Nat.beq a (b + 3)) && Nat.beq k sz) = false := by
    rcases h5 with h | h
    · rw [beq_ne h.1, beq_ne h.2]; rfl
    · rw [beq_ne h, Bool.and_false]
  rw [e4, e5]; rfl
/-- a rule of before stays -/
theorem rx_keep {s t : bi_St} {b C n sz lo : Nat} {P : Lp} {sil : Bool} (hE : RE s b sz lo) (hb5 : st_g t b 5 = zI (sz + 1)) (hsz : sz + 1 ≤ st_rn b) (hf : fr (wRr b lo sz) s t) (h6 : ∀ i, i < sz → tb (st_g t b 6) i = tb (st_g s b 6) i) (hn : n < sz) (h : rx s b C n P sil) : rx t b C n P sil := by
  have hb := isR_ge hE.1
  have hrn := st_rn_le (b := b)
  obtain ⟨⟨l0, sz', h1, h2, h3, h4, h5, h7, h8, h9⟩, hc, hs⟩ := h
  obtain ⟨e, he1, he2⟩ := hE.2.2.2.2.2.2.2.2.1 n hn
  have hlo := hE.2.2.2.2.2.1
  have hle : l0 + P.length ≤ lo := by
    rw [h5, zI_eq (by omega) (by omega)] at he1; omega
  have g2 : ∀ k, k ≠ sz → st_g t (b + 2) k = st_g s (b + 2) k := fun k hk => hf.g (wRr_ne (by omega) (by omega) (by omega) (by omega) (by omega))
  have g3 : ∀ k, k ≠ sz → st_g t (b + 3) k = st_g s (b + 3) k := fun k hk => hf.g (wRr_ne (by omega) (by omega) (by omega) (by omega) (by omega))
  refine ⟨⟨l0, sz + 1, hb5, hsz, by omega, ?_, by rw [g2 _ (by omega)]; exact h5, h7, fun k hk => ?_, h9⟩, by rw [g3 _ (by omega)]; exact hc, by rw [h6 n hn]; exact hs⟩
  · by_cases h0 : n = 0
    · rw [if_pos h0] at h4 ⊢; exact h4
    · rw [if_neg h0] at h4 ⊢; rw [g2 _ (by omega)]; exact h4
  · rw [hf.g (wRr_ne (by omega) (by omega) (by omega) (by omega) (by omega))]; exact h8 k hk
theorem ct_readRule {X : bi_X} {d : Nat} {K : Int32 → bi_St → Prop} {E : Nat → bi_St → Prop} {s : bi_St} {B : Nat → Nat} {N C R b lo q sz : Nat} (hT : TB s B N) (hq : CT s B N q) (hC : C ≤ 4) (hR : R ≤ 6) (hE : RE s b sz lo) (hsz : sz < st_rn b) (hlq : lo ≤ q) (hgp : st_gp s 6 = b) (h2 : st_g s 44 2 = zI C) (h3 : st_g s 44 3 = zI R)
    (kF : ∀ t f p, fr (wRf b lo) s t → st_g t 1 9 = zI f → st_g t 1 10 = zI p → 1 ≤ f → f ≤ 3 → p ≤ N → Ends B N C R (m0 q) (.inl (f, p)) → K (-1) t)
    (kT : ∀ t q' P sil, fr (wRr b lo sz) s t → TB t B N → CT t B N q' → q ≤ q' → RE t b (sz + 1) (lo + P.length) → lo + P.length ≤ q' → (∀ i, i < sz → tb (st_g t b 6) i = tb (st_g s b 6) i) → rx t b C sz P sil → st_g t 1 9 = st_g s 1 9 → st_g t 1 10 = st_g s 1 10 → Ends B N C R (m0 q) (.inr (q', P, sil)) → K (zI sz) t) : cI X (d + 57) 50 [.ref 44] s K E := by
  have hb := isR_ge hE.1
  have hrn := st_rn_le (b := b)
  have hN := hT.1
  refine en_X4_readRule ?_
  have f1 : fr (wRs b lo) s (st_p (st_p s 1 8 (0 : Int32)) 44 4 (1 : Int32)) := (fr.refl.p (by unfold wRs wTk; simp)).p (by unfold wRs; simp)
  have c1 : CS (st_p (st_p s 1 8 (0 : Int32)) 44 4 (1 : Int32)) B N C R b lo 0 q [] true := by
    have g : ∀ a y, a ≠ 1 → a ≠ 44 → st_g (st_p (st_p s 1 8 (0 : Int32)) 44 4 (1 : Int32)) a y = st_g s a y := fun a y h1 h2 => by rw [g_p_a h2, g_p_a h1]
    have g1 : ∀ y, y ≠ 8 → st_g (st_p (st_p s 1 8 (0 : Int32)) 44 4 (1 : Int32)) 1 y = st_g s 1 y := fun y hh => by rw [g_p_a (by omega), g_p_k hh]
    obtain ⟨y1, y2, y3, y4, y5⟩ := hq
    refine ⟨hE.1, hC, hR, TB_fr (g1 _ (by omega)) (fun y => g _ _ (by omega) (by omega)) hT, ⟨y1, by rw [g1 _ (by omega)]; exact y2, by rw [g1 _ (by omega)]; exact y3, by rw [g1 _ (by omega)]; exact y4, fun hh => by rw [g1 _ (by omega), g1 _ (by omega)]; exact y5 hh⟩, hgp, by rw [g_p_k (by omega), g_p_a (by omega)]; exact h2, by rw [g_p_k (by omega), g_p_a (by omega)]; exact h3, g_p_eq _ _ _ _, by rw [g _ _ (by omega) (by omega)]; exact hE.2.2.2.2.1, fun k hk => absurd hk (by simp), ?_⟩
    rw [g_p_a (by omega), g_p_eq]; rfl
  generalize st_p (st_p s 1 8 (0 : Int32)) 44 4 (1 : Int32) = s1' at f1 c1
  have hsp : Spc X (d + 56) 52 B N C R 0 0 1 0 (0 + 1) (pU B N) := by
    have := sp_all (X := X) (B := B) (N := N) (C := C) (R := R) 5 0 rfl d
    rw [show 9 * 5 + 11 + d = d + 56 by omega] at this; exact this
  refine hsp _ _ s1' b lo q 0 [] [] (fun _ => false) true true 0 c1 ⟨rfl, rfl⟩ trivial (by show 0 ≤ _; omega) (okf_nil C) (by simp; omega) (fun _ => rfl) (fun t f p ht a1 a2 a3 a4 a5 he => ⟨fun _ => kF t f p ((f1.mono wRs_wRf).trans ht) a1 a2 a3 a4 a5 he, fun z => absurd rfl z⟩) (fun t q' P sil tst' ht hc hok hJ hmn htst hlv hsim => ⟨fun z => absurd z (by decide), fun _ => ?_⟩)
  have hmn : q ≤ q' := hmn
  have hst : fr (wRs b lo) s t := f1.trans ht
  have hJ : lo + P.length + 0 ≤ q' := hJ
  have hN2 := CS_N hc
  have hbin : bin ([] : List Nat) = 0 := rfl
  rw [hbin] at hok
  have hokp := okf_ok hok
  have hfin : Ends B N C R (m0 q) (.inr (q', P, sil)) := hsim _ (.fin _ _ (by
    have hl0 : lvl B N q' (tst' (0 + 1)) = 0 := by omega
    have hl := lvl_cases (B := B) (N := N) (q := q') (t := tst' (0 + 1))
    show stP B N _ = _
    have k22 : ¬ kn B N q' = 22 := fun z => by unfold lvl at hl0; rw [if_pos z] at hl0; omega
    have k23 : ¬ kn B N q' = 23 := fun z => by unfold lvl at hl0; rw [if_neg k22, if_pos z] at hl0; omega
    have c60 : ¬ ((tG B N q' = 60 ∨ tG B N q' = 61) ∧ tst' (0 + 1) = false) := fun z => by unfold lvl at hl0; rw [if_neg k22, if_neg k23, if_pos z] at hl0; omega
    have c43 : ¬ (tG B N q' = 43 ∨ tG B N q' = 45) := fun z => by unfold lvl at hl0; rw [if_neg k22, if_neg k23, if_neg c60, if_pos z] at hl0; omega
    have c42 : ¬ (tG B N q' = 42 ∨ tG B N q' = 47) := fun z => by unfold lvl at hl0; rw [if_neg k22, if_neg k23, if_neg c60, if_neg c43, if_pos z] at hl0; omega
    unfold stP
    rw [if_neg k22, if_neg k23, if_neg (fun z => c60 ⟨Or.inl z.1, z.2⟩), if_neg (fun z => c60 ⟨Or.inr z.1, z.2⟩), if_neg (fun z => c43 (Or.inl z)), if_neg (fun z => c43 (Or.inr z)), if_neg (fun z => c42 (Or.inl z)), if_neg (fun z => c42 (Or.inr z)), if_neg (fun z => by have := z.2; cases this), if_neg (show ¬ 1 < (q', P, ([] : List Nat), tst', 0 + 1, sil).2.2.2.2.1 from by show ¬ 1 < 0 + 1; omega)]
    rfl))
  refine ⟨by rw [hc.2.2.2.2.2.1]; exact hE.1, ?_⟩
  rw [hc.2.2.2.2.2.1, hc.2.2.2.2.2.2.2.2.1, hc.2.2.2.2.2.2.2.2.2.2.2]
  have e0 : (0 : Int32) + zI P.length = zI P.length := Int32.zero_add _
  rw [e0]
  have tb5 : st_g t b 5 = zI sz := by rw [hst.g (wRs_ne (by omega) (by omega) (by omega) (by omega))]; exact hE.2.2.2.1
  have tb3 : st_g t b 3 = zI (st_rn b) := by rw [hst.g (wRs_ne (by omega) (by omega) (by omega) (by omega))]; exact hE.2.2.1
  have tb6 : st_g t b 6 = st_g s b 6 := hst.g (wRs_ne (by omega) (by omega) (by omega) (by omega))
  have tb4 : st_g t b 4 = zI (lo + P.length) := hc.2.2.2.2.2.2.2.2.2.1
  have w6 : ∀ k, 4 ≤ k → k ≤ 6 → wRr b lo sz b k = true := fun k h1 h2 => by unfold wRr; rw [beq_rf b, Nat.ble_eq_true_of_le h1, Nat.ble_eq_true_of_le h2]; simp
  have w2 : wRr b lo sz (b + 2) sz = true := by unfold wRr; rw [beq_rf (b + 2), beq_rf sz]; simp
  have w3 : wRr b lo sz (b + 3) sz = true := by unfold wRr; rw [beq_rf (b + 3), beq_rf sz]; simp
  have fin : ∀ v6 (u : bi_St), u = st_p (st_p (st_p (st_p t (b + 2) sz (zI (lo + P.length))) (b + 3) sz (zI P.length)) b 6 v6) b 5 (zI (sz + 1)) → (∀ i, i < 32 → tb v6 i = if i = sz then sil else tb (st_g s b 6) i) → K (zI sz) u := by
    intro v6 u hu hv6
    have fu : fr (wRr b lo sz) s u := by rw [hu]; exact ((((hst.mono wRs_wRr).p w2).p w3).p (w6 6 (by omega) (by omega))).p (w6 5 (by omega) (by omega))
    have u6 : st_g u b 6 = v6 := by rw [hu, g_p_k (by omega), g_p_eq]
    have u5 : st_g u b 5 = zI (sz + 1) := by rw [hu, g_p_eq]
    have u4 : st_g u b 4 = zI (lo + P.length) := by rw [hu, g_p_k (by omega), g_p_k (by omega), g_p_a (by omega), g_p_a (by omega)]; exact tb4
    have u2 : ∀ k, st_g u (b + 2) k = if k = sz then zI (lo + P.length) else st_g s (b + 2) k := fun k => by
      rw [hu, g_p_a (by omega), g_p_a (by omega), g_p_a (by omega), g_p]
      by_cases hk : k = sz
      · simp [hk]
      · simp only [hk, and_false, if_false]; exact hst.g (wRs_ne (by omega) (by omega) (by omega) (by omega))
    have u3 : st_g u (b + 3) sz = zI P.length := by rw [hu, g_p_a (by omega), g_p_a (by omega), g_p_eq]
    have u1 : ∀ k, st_g u (b + 1) k = st_g t (b + 1) k := fun k => by rw [hu]; iterate 4 rw [g_p_a (by omega)]
    have uo : ∀ a k, a ≤ 2 → st_g u a k = st_g t a k := fun a k ha => by rw [hu]; iterate 4 rw [g_p_a (by omega)]
    obtain ⟨y1, y2, y3, y4, y5⟩ := hc.2.2.2.2.1
    refine kT u q' P sil fu (TB_fr (uo _ _ (by omega)) (fun k => uo _ _ (by omega)) hc.2.2.2.1) ⟨y1, by rw [uo _ _ (by omega)]; exact y2, by rw [uo _ _ (by omega)]; exact y3, by rw [uo _ _ (by omega)]; exact y4, fun hh => by rw [uo _ _ (by omega), uo _ _ (by omega)]; exact y5 hh⟩ hmn ⟨hE.1, by omega, ?_, u5, u4, by omega, fun z => by omega, fun _ => ?_, fun n hn => ?_, fun n h1 h2 => ?_⟩ (by omega) (fun i hi => ?_) ⟨⟨lo, sz + 1, u5, by omega, by omega, ?_, ?_, by omega, fun k hk => ?_, hokp⟩, u3, ?_⟩ ?_ ?_ hfin
    · rw [hu, g_p_k (by omega), g_p_k (by omega), g_p_a (by omega), g_p_a (by omega)]; exact tb3
    · rw [u2, show sz + 1 - 1 = sz by omega, if_pos rfl]
    · rw [u2]
      by_cases hk : n = sz
      · rw [if_pos hk]; exact ⟨_, rfl, Nat.le_refl _⟩
      · rw [if_neg hk]
        obtain ⟨e, e1, e2⟩ := hE.2.2.2.2.2.2.2.2.1 n (by omega)
        exact ⟨e, e1, by omega⟩
    · rw [u6, hv6 n h2, if_neg (by omega)]; exact hE.2.2.2.2.2.2.2.2.2 n (by omega) h2
    · rw [u6, hv6 i (by omega), if_neg (by omega)]
    · by_cases h0 : sz = 0
      · rw [if_pos h0]; exact hE.2.2.2.2.2.2.1 h0
      · rw [if_neg h0, u2, if_neg (by omega)]; exact hE.2.2.2.2.2.2.2.1 (by omega)
    · rw [u2, if_pos rfl]
    · rw [u1]; exact hc.2.2.2.2.2.2.2.2.2.2.1 k hk
    · rw [u6, hv6 sz (by omega), if_pos rfl]
    · rw [uo _ _ (by omega)]; exact hst.g (wRs_1 hE.1 (by omega))
    · rw [uo _ _ (by omega)]; exact hst.g (wRs_1 hE.1 (by omega))
  refine en_X5_end hE.1 ?_
  have n2 : ∀ (u : bi_St) v k, st_g (st_p u (b + 2) sz v) b k = st_g u b k := fun u v k => g_p_a (by omega)
  have n3 : ∀ (u : bi_St) v k, st_g (st_p u (b + 3) sz v) b k = st_g u b k := fun u v k => g_p_a (by omega)
  have n6 : ∀ (u : bi_St) v, st_g (st_p u b 6 v) b 5 = st_g u b 5 := fun u v => g_p_k (by omega)
  rw [tb5, tb3, zI_nat (by omega)]
  simp only [n2, n3, n6, tb5, tb4, tb6, zI_nat (show sz < 2147483648 by omega), zI_add1, g_p_eq]
  rw [zI_sub1 (by omega), show sz + 1 - 1 = sz by omega]
  refine ⟨fun _ => ⟨in_zI hsz (by omega), in_zI hsz (by omega), fun z => fin _ _ rfl (fun i hi => ?_), fun z => fin _ _ rfl (fun i hi => ?_)⟩, fun z => absurd ((zI_lt (by omega) (by omega)).mpr hsz) z⟩
  · rw [b2i_ne0] at z
    rw [Int32.or_zero]
    by_cases hi2 : i = sz
    · rw [if_pos hi2, hi2, hE.2.2.2.2.2.2.2.2.2 sz (Nat.le_refl _) (by omega), z]
    · rw [if_neg hi2]
  · rw [b2i_ne0] at z
    have z : sil = true := by simpa using z
    rw [tb_or]
    have es : tb ((1 : Int32) <<< (zI sz &&& 31)) i = decide (i = sz) := tb_s1 (by omega) hi
    rw [es]
    by_cases hi2 : i = sz
    · rw [if_pos hi2, decide_eq_true hi2, z]; simp
    · rw [if_neg hi2, decide_eq_false hi2]; simp
end RULE
