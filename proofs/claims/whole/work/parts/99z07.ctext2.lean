/-! ===== the class reads a text, and conditions ===== -/
section CTEXT2
theorem ct_readText {X : bi_X} {d : Nat} {K : Int32 → bi_St → Prop} {E : Nat → bi_St → Prop} {s : bi_St} {B : Nat → Nat} {N m b a : Nat} (hb : st_isB b) (ha : st_isS a) (hm : m ≤ 700) (hN : N ≤ m) (h11 : st_g s 1 1 = zI m) (hB : ∀ i, i < m → B i < 256 ∧ st_g s 2 i = sb (B i)) (h83 : st_g s (b + 8) 3 = zI 19)
    (kF : ∀ e t, txt B N = .inl e → fg (wTx b a) (st_pp (st_pp s 4 b) 5 a) t → st_g t 1 9 = zI e.1 → st_g t 1 10 = zI e.2 → 1 ≤ e.1 → e.1 ≤ 3 → K 0 t)
    (kT : ∀ T t, txt B N = .inr T → fg (wTx b a) (st_pp (st_pp s 4 b) 5 a) t → CE t b a T → K 1 t) : cI X (d + 59) 104 [.ref 43, .int (zI N), .ref b, .ref a] s K E := by
  have hbr := isB_r hb
  have har := isS_r ha
  refine en_X9_readText hb ha ?_
  have s4 : st_gp (st_pp (st_pp s 4 b) 5 a) 4 = b := by rw [gp_pp, if_neg (by omega), gp_pp, if_pos rfl]
  have s5 : st_gp (st_pp (st_pp s 4 b) 5 a) 5 = a := by rw [gp_pp, if_pos rfl]
  have sg : ∀ c k, st_g (st_pp (st_pp s 4 b) 5 a) c k = st_g s c k := fun c k => rfl
  generalize st_pp (st_pp s 4 b) 5 a = s0 at kF kT s4 s5 sg
  rw [s4]
  refine ⟨hb, ct_clearB (d := d + 57) hb (fun t1 f1 p1 t10 t11 t12 t13 t18 t19 t84 t85 t86 => ?_)⟩
  rw [p1, s5]
  refine ⟨ha, ct_clearS (d := d + 57) ha (fun t2 f2 p2 q0 q4 q6 q7 qr => ?_)⟩
  refine ct_begin (d := d + 56) (B := B) (N := N) (m := m) hm hN (by rw [f2.g (by omega), f1.g (by omega), sg]; exact h11) (fun i hi => ⟨(hB i hi).1, by rw [f2.g (by omega), f1.g (by omega), sg]; exact (hB i hi).2⟩) (fun t3 f3 p3 hT hC t39 t310 => ?_)
  have g32 : ∀ c k, c ≠ 1 → st_g t3 c k = st_g t2 c k := fun c k hh => f3.g (by omega)
  have gb : ∀ c k, b ≤ c → c ≤ b + 11 → st_g t3 c k = st_g t1 c k := fun c k h1 h2 => by rw [g32 _ _ (by omega), f2.g (by omega)]
  have F3 : fg (wTx b a) s0 t3 := ((f1.mono (fun c k hh => by unfold wTx; omega)).trans (f2.mono (fun c k hh => by unfold wTx; omega))).trans (f3.mono (fun c k hh => by unfold wTx; omega))
  have t34 : st_gp t3 4 = b := by rw [p3, p2, p1]; exact s4
  have t35 : st_gp t3 5 = a := by rw [p3, p2, p1]; exact s5
  -- with columns as they are told
  have CX0 : ∀ C u q, 1 ≤ C → C ≤ 4 → TB u B N → CT u B N q → (∀ c k, c ≠ 1 → (c ≠ b ∨ k ≠ 0) → st_g u c k = st_g t3 c k) → st_g u b 0 = zI C → st_g u 1 9 = 0 → st_gp u 4 = b → st_gp u 5 = a → CX u B N b a (tx0 C) q 0 0 := by
    intro C u q hC1 hC4 hTu hCu gu ub u9 u4 u5
    have gb2 : ∀ c k, b ≤ c → c ≤ b + 11 → (c ≠ b ∨ k ≠ 0) → st_g u c k = st_g t1 c k := fun c k h1 h2 h3 => by rw [gu _ _ (by omega) h3, gb _ _ h1 h2]
    have ga2 : ∀ c k, a ≤ c → c ≤ a + 5 → st_g u c k = st_g t2 c k := fun c k h1 h2 => by rw [gu _ _ (by omega) (by omega), g32 _ _ (by omega)]
    refine ⟨⟨hTu, hCu, u9⟩, ⟨u4, u5, hb, ha⟩, ⟨ub, by rw [gb2 _ _ (by omega) (by omega) (by omega)]; exact t11, by rw [gb2 _ _ (by omega) (by omega) (by omega)]; exact t12, by rw [gb2 _ _ (by omega) (by omega) (by omega)]; exact t18⟩, ⟨hC1, hC4, by show 0 ≤ 6; omega, by show 0 ≤ 16; omega, by show 0 ≤ 8; omega, by show 0 ≤ 3; omega⟩, ⟨⟨st_isR_B hb, by omega, ?_, by rw [gb2 _ _ (by omega) (by omega) (by omega)]; exact t85, by rw [gb2 _ _ (by omega) (by omega) (by omega)]; exact t84, by omega, fun _ => rfl, fun z => by omega, fun n hn => by omega, fun n h1 h2 => by rw [gb2 _ _ (by omega) (by omega) (by omega), t86, tb_0]⟩, by omega, by omega⟩, ⟨fun i hi => absurd hi (Nat.not_lt_zero i), fun i hi => absurd hi (Nat.not_lt_zero i)⟩, ⟨fun i h1 h2 => by rw [gb2 _ _ (by omega) (by omega) (by omega), t13, tb_0], fun i h1 h2 => by rw [gb2 _ _ (by omega) (by omega) (by omega), t19, tb_0]⟩, ⟨by rw [ga2 _ _ (by omega) (by omega)]; exact q0, fun r hr => by rw [ga2 _ _ (by omega) (by omega)]; exact qr r hr, fun r _ _ => rfl, fun r _ q _ _ => tb_0 q, fun r c h1 h2 => absurd h1 (Nat.not_lt_zero r), by rw [ga2 _ _ (by omega) (by omega)]; exact q4, by rw [ga2 _ _ (by omega) (by omega)]; exact q6, by rw [ga2 _ _ (by omega) (by omega)]; exact q7⟩⟩
    rw [gb2 _ _ (by omega) (by omega) (by omega), f1.g (by omega), sg, st_rnB hb]; exact h83
  have s53 : ∀ C u q, 1 ≤ C → C ≤ 4 → fg (wTx b a) s0 u → TB u B N → CT u B N q → (∀ c k, c ≠ 1 → (c ≠ b ∨ k ≠ 0) → st_g u c k = st_g t3 c k) → st_g u b 0 = zI C → st_g u 1 9 = 0 → st_gp u 4 = b → st_gp u 5 = a → txt B N = lns B N 701 (tx0 C) q → at_X9_readText_53 X (d + 59) K E u := fun C u q h1 h2 fu hTu hCu gu ub u9 u4 u5 hr =>
    go_X9_readText_53 (ct_textL (d := d) kF kT 701 0 q (tx0 C) u 0 0 rfl (Nat.zero_le _) fu (CX0 C u q h1 h2 hTu hCu gu ub u9 u4 u5) hr)
  refine ct_isWord (j := 6) hT hC (by omega) ?_
  rw [b2i_ne0, show wPm 6 = 5 from rfl]
  refine ⟨fun n5 => ?_, fun k5 => ?_⟩
  · have n5 : ¬ kn B N 0 = 5 := by simpa using n5
    exact s53 2 t3 0 (by omega) (by omega) F3 hT hC (fun c k _ _ => rfl) (by rw [gb _ _ (by omega) (by omega)]; exact t10) t39 t34 t35 (by unfold txt; rw [if_neg n5])
  · have k5 : kn B N 0 = 5 := by simpa using k5
    have h0 : tK B N 0 ≠ 0 := by have := (kn_lt (B := B) (N := N) (q := 0) (by omega)).1; omega
    have hadv := tok_adv (B := B) hC.1 h0
    have hr : txt B N = (if clF B N (tE B N 0) = 0 then (if tG B N (tE B N (tE B N 0)) = 59 then lns B N 701 (tx0 (tV B N (tE B N 0))) (tE B N (tE B N (tE B N 0))) else .inl (1, tS B N (tE B N (tE B N 0)))) else .inl (clF B N (tE B N 0), tS B N (tE B N 0))) := by unfold txt; rw [if_pos k5]
    refine en_X9_readColumns (ct_advC hT hC (fun t4 f4 hT4 hC4 => ?_))
    have F4 : fg (wTx b a) s0 t4 := F3.tk f4 (fun k h1 h2 => Or.inl ⟨rfl, by omega⟩)
    have t44 : st_gp t4 4 = b := by rw [f4.2.1]; exact t34
    have t45 : st_gp t4 5 = a := by rw [f4.2.1]; exact t35
    have t49 : st_g t4 1 9 = 0 := by rw [f4.g rfl]; exact t39
    refine ct_needN (m := 5) (fk := 2) hC4 rfl (by omega) (by omega) (fun hn k2 u6 hlt => ⟨fun _ => ?_, fun z => absurd (by decide) z⟩) (fun hn w hw w9 w10 => ⟨fun z => absurd rfl z, fun _ => ⟨fun z => absurd rfl z, fun _ => ?_⟩⟩)
    · rw [u6, t44, show ((1 : Int32) ≤ zI (tV B N (tE B N 0))) ↔ 1 ≤ tV B N (tE B N 0) from zI_le (a := 1) (by omega) (by omega)]
      refine ⟨fun hge => ⟨hb, ?_⟩, fun hlt1 => ct_refC (f := 2) hC4 (fun w hw w9 w10 => ⟨rfl, ⟨fun z => absurd rfl z, fun _ => ?_⟩⟩)⟩
      · have hcl : clF B N (tE B N 0) = 0 := by unfold clF; rw [if_pos hn, if_neg (by omega)]
        rw [if_pos hcl] at hr
        have hadv2 := tok_adv (B := B) hC4.1 (show tK B N (tE B N 0) ≠ 0 by omega)
        refine ct_advC (TB_fr (g_p_a (by omega)) (fun k => g_p_a (by omega)) hT4) (CT_fr (fun k h1 h2 => g_p_a (by omega)) hC4) (fun t5 f5 hT5 hC5 => ?_)
        have F5 : fg (wTx b a) s0 t5 := (F4.p (Or.inr (Or.inr (Or.inl (by omega))))).tk f5 (fun k h1 h2 => Or.inl ⟨rfl, by omega⟩)
        refine ct_passS (d := d + 55) (c := 59) hT5 hC5 (by omega) (fun h59 w hw hTw hCw => ⟨rfl, fun _ => ?_, fun z => absurd (by decide) z⟩) (fun h59 w hw w9 w10 => ⟨rfl, fun z => absurd rfl z, fun _ => ?_⟩)
        · rw [if_pos h59] at hr
          refine s53 (tV B N (tE B N 0)) w _ hge (by omega) (F5.tk hw (fun k h1 h2 => Or.inl ⟨rfl, by omega⟩)) hTw hCw (fun c k h1 h2 => ?_) ?_ ?_ (by rw [hw.2.1, f5.2.1]; exact t44) (by rw [hw.2.1, f5.2.1]; exact t45) hr
          · rw [hw.g (wTk_ne h1), f5.g (wTk_ne h1), g_p, if_neg (by omega), f4.g (wTk_ne h1)]
          · rw [hw.g (wTk_ne (by omega)), f5.g (wTk_ne (by omega)), g_p_eq]
          · rw [hw.g rfl, f5.g rfl, g_p_a (by omega)]; exact t49
        · rw [if_neg h59] at hr
          exact kF (1, tS B N (tE B N (tE B N 0))) w hr (F5.trans (hw.mono wF_Tx)) w9 w10 (by show 1 ≤ 1; omega) (by show 1 ≤ 3; omega)
      · have hcl : clF B N (tE B N 0) = 2 := by unfold clF; rw [if_pos hn, if_pos (by omega)]
        rw [hcl, if_neg (by omega)] at hr
        exact kF (2, tS B N (tE B N 0)) w hr (F4.trans (hw.mono wF_Tx)) w9 w10 (by show 1 ≤ 2; omega) (by show 2 ≤ 3; omega)
    · have hcl : clF B N (tE B N 0) = nmF B N (tE B N 0) 5 2 := by unfold clF; rw [if_neg hn]
      rw [hcl, if_neg hn] at hr
      exact kF (nmF B N (tE B N 0) 5 2, tS B N (tE B N 0)) w hr (F4.trans (hw.mono wF_Tx)) w9 w10 (by show 1 ≤ nmF B N (tE B N 0) 5 2; omega) (nmF_le (by omega))
/-- what reading conditions may change -/
def wCd (c k : Nat) : Prop := (c = 1 ∧ 2 ≤ k) ∨ c = 44 ∨ (3 ≤ c ∧ c ≤ 6 ∧ ¬ (c = 3 ∧ k = 3))
theorem DC_keep {s t : bi_St} {C : Nat} {D : List (Lp × Bool)} {x : Lp × Bool} (h : ∀ i y, D[i]? = some y → rx s 3 C i y.1 y.2) (hk : ∀ C n P sil, rx s 3 C n P sil → rx t 3 C n P sil) (hx : rx t 3 C D.length x.1 x.2) : ∀ i y, (D ++ [x])[i]? = some y → rx t 3 C i y.1 y.2 := by
  intro i y hy
  by_cases hi : i < D.length
  · rw [List.getElem?_append_left hi] at hy
    exact hk _ _ _ _ (h i y hy)
  · have := (List.getElem?_eq_some_iff.mp hy).1
    rw [List.length_append] at this
    simp only [List.length_cons, List.length_nil] at this
    have hi2 : i = D.length := by omega
    subst hi2
    rw [List.getElem?_append_right (Nat.le_refl _), Nat.sub_self, List.getElem?_cons_zero] at hy
    injection hy with hy
    rw [← hy]; exact hx
theorem ct_readConditions {X : bi_X} {d : Nat} {K : Int32 → bi_St → Prop} {E : Nat → bi_St → Prop} {s : bi_St} {B : Nat → Nat} {N m b C R : Nat} (hb : st_isB b) (hm : m ≤ 700) (hN : N ≤ m) (h11 : st_g s 1 1 = zI m) (hB : ∀ i, i < m → B i < 256 ∧ st_g s 2 i = sb (B i)) (h33 : st_g s 3 3 = zI 5) (hC : C ≤ 4) (hR : R ≤ 6) (b0 : st_g s b 0 = zI C) (b1 : st_g s b 1 = zI R)
    (kF : ∀ e t, cnd B N C R 5 0 [] = .inl e → fg wCd s t → st_g t 1 9 = zI e.1 → st_g t 1 10 = zI e.2 → 1 ≤ e.1 → e.1 ≤ 3 → K 0 t)
    (kT : ∀ D t, cnd B N C R 5 0 [] = .inr D → fg wCd s t → DC t C D → st_g t 3 3 = zI 5 → K 1 t) : cI X (d + 60) 103 [.ref 43, .int (zI N), .ref b, .ref 3] s K E := by
  have hbr := isB_r hb
  obtain ⟨r0, hr0⟩ : ∃ r0, cnd B N C R 5 0 [] = r0 := ⟨_, rfl⟩
  rw [hr0] at kF kT
  have wf : ∀ c k, (c = 1 ∧ 9 ≤ k) → wCd c k := fun c k hh => Or.inl ⟨hh.1, by omega⟩
  have loop : ∀ n i q D u lo, n + i = 5 → D.length = i → fg wCd s u → TB u B N → CT u B N q → RE u 3 i lo → lo ≤ q → st_gp u 6 = 3 → st_g u 44 2 = zI C → st_g u 44 3 = zI R → (∀ i y, D[i]? = some y → rx u 3 C i y.1 y.2) → r0 = cnd B N C R n q D → at_X9_readConditions_31 X (d + 60) K E u (zI i) := by
    intro n
    induction n with
    | zero =>
      intro i q D u lo h1 h2 fu hT hCt hE hlo u6 u44a u44b hD hr
      have e5 : ((5 : Int32) ≤ zI i) ↔ 5 ≤ i := zI_le (a := 5) (by omega) (by omega)
      refine go_X9_readConditions_31 ?_
      rw [e5]
      refine ⟨fun _ => ct_canBegin hT hCt ?_, fun z => by omega⟩
      rw [b2i_ne0]
      rw [cnd] at hr
      refine ⟨fun z => ct_refC (f := 1) hCt (fun w hw w9 w10 => ⟨rfl, ?_⟩), fun z => ct_refC (f := 2) hCt (fun w hw w9 w10 => ⟨rfl, ?_⟩)⟩
      · rw [z, if_neg (by simp)] at hr
        exact kF (1, tS B N q) w hr (fu.trans (hw.mono wf)) w9 w10 (by show 1 ≤ 1; omega) (by show 1 ≤ 3; omega)
      · have z : canB B N q = true := by simpa using z
        rw [z, if_pos rfl] at hr
        exact kF (2, tS B N q) w hr (fu.trans (hw.mono wf)) w9 w10 (by show 1 ≤ 2; omega) (by show 2 ≤ 3; omega)
    | succ n ih =>
      intro i q D u lo h1 h2 fu hT hCt hE hlo u6 u44a u44b hD hr
      have e5 : ((5 : Int32) ≤ zI i) ↔ 5 ≤ i := zI_le (a := 5) (by omega) (by omega)
      rw [cnd] at hr
      refine go_X9_readConditions_31 ?_
      rw [e5]
      refine ⟨fun z => by omega, fun _ => ct_ruleX (d := d + 2) (r := 3) hT hCt hC hR hE (by show i < 5; omega) hlo u6 u44a u44b (fun e w he hw w9 w10 e1 e3 _ => ⟨fun z => absurd rfl z, fun _ => ?_⟩) (fun x w he hw hTw hCw hqw hEw hlw hrx hkeep w9 w10 w6 => ⟨fun _ => ?_, fun z => absurd (fun y => zI_m1 (by omega) y) z⟩)⟩
      · rw [he] at hr
        exact kF e w hr (fu.trans (hw.mono (fun c k hh => by unfold wRl2 at hh; unfold wCd; omega))) w9 w10 e1 e3
      · rw [he] at hr
        simp only at hr
        have fw : fg wCd s w := fu.trans (hw.mono (fun c k hh => by unfold wRl2 at hh; unfold wCd; omega))
        have hk3 := tK_le (B := B) (N := N) (q := x.1)
        have e0 : (zI (tK B N x.1) = 0) ↔ tK B N x.1 = 0 := zI_eq (b := 0) (by omega) (by omega)
        have hD2 := DC_keep (x := (x.2.1, x.2.2)) hD hkeep (by rw [h2]; exact hrx)
        have hl2 : (D ++ [(x.2.1, x.2.2)]).length = i + 1 := by rw [List.length_append, h2]; rfl
        rw [hCw.2.1, e0]
        refine ⟨fun n0 => ?_, fun k0 => ?_⟩
        · rw [if_neg n0] at hr
          refine ct_passS (d := d + 57) (c := 44) hTw hCw (by omega) (fun h44 v hv hTv hCv => ⟨fun _ => ?_, fun z => absurd (by decide) z⟩) (fun h44 v hv v9 v10 => ⟨fun z => absurd rfl z, fun _ => ?_⟩)
          · rw [if_pos h44] at hr
            have hadv := tok_adv (B := B) hCw.1 n0
            rw [zI_add1]
            refine ih (i + 1) (tE B N x.1) _ v (lo + x.2.1.length) (by omega) hl2 (fw.tk hv (fun k h1 h2 => Or.inl ⟨rfl, by omega⟩)) hTv hCv (RE_eq (fun k => hv.g (wTk_ne (by omega))) (fun k => hv.g (wTk_ne (by omega))) hEw) (by omega) (by rw [hv.2.1]; exact w6) (by rw [hv.g (wTk_ne (by omega)), hw.g (by unfold wRl2; omega)]; exact u44a) (by rw [hv.g (wTk_ne (by omega)), hw.g (by unfold wRl2; omega)]; exact u44b) (fun j y hj => rx_fr (fun c k h1 h2 => hv.g (wTk_ne (by omega))) (hD2 j y hj)) hr
          · rw [if_neg h44] at hr
            exact kF (1, tS B N x.1) v hr (fw.trans (hv.mono wf)) v9 v10 (by show 1 ≤ 1; omega) (by show 1 ≤ 3; omega)
        · rw [if_pos (Decidable.of_not_not k0)] at hr
          exact kT _ w hr fw ⟨by omega, by rw [hl2]; exact hEw.2.2.2.1, hD2⟩ (by rw [hEw.2.2.1]; rfl)
  refine en_X9_readConditions hb (Or.inl rfl) (en_X5_clear (Or.inl rfl) ?_)
  have g0 : ∀ c k, (c ≠ 3 ∨ k < 4) → st_g (st_p (st_p (st_p s 3 4 (0 : Int32)) 3 5 (0 : Int32)) 3 6 (0 : Int32)) c k = st_g s c k := fun c k hh => by rw [g_p, if_neg (by omega), g_p, if_neg (by omega), g_p, if_neg (by omega)]
  have f0 : fg wCd s (st_p (st_p (st_p s 3 4 (0 : Int32)) 3 5 (0 : Int32)) 3 6 (0 : Int32)) := ((fg.refl.p (Or.inr (Or.inr (by omega)))).p (Or.inr (Or.inr (by omega)))).p (Or.inr (Or.inr (by omega)))
  have s34 : st_g (st_p (st_p (st_p s 3 4 (0 : Int32)) 3 5 (0 : Int32)) 3 6 (0 : Int32)) 3 4 = 0 := by rw [g_p_k (by omega), g_p_k (by omega), g_p_eq]
  have s35 : st_g (st_p (st_p (st_p s 3 4 (0 : Int32)) 3 5 (0 : Int32)) 3 6 (0 : Int32)) 3 5 = 0 := by rw [g_p_k (by omega), g_p_eq]
  have s36 : st_g (st_p (st_p (st_p s 3 4 (0 : Int32)) 3 5 (0 : Int32)) 3 6 (0 : Int32)) 3 6 = 0 := g_p_eq _ _ _ _
  generalize st_p (st_p (st_p s 3 4 (0 : Int32)) 3 5 (0 : Int32)) 3 6 (0 : Int32) = s1 at g0 f0 s34 s35 s36
  rw [g0 b 0 (by omega), g0 b 1 (by omega), b0, b1]
  refine en_X4_aim (Or.inl rfl) ?_
  have g1 : ∀ c k, c ≠ 44 → st_g (st_p (st_p (st_pp s1 6 3) 44 2 (zI C)) 44 3 (zI R)) c k = st_g s1 c k := fun c k h1 => by rw [g_p_a h1, g_p_a h1, g_pp]
  have f1 : fg wCd s (st_p (st_p (st_pp s1 6 3) 44 2 (zI C)) 44 3 (zI R)) := ((f0.pp).p (Or.inr (Or.inl rfl))).p (Or.inr (Or.inl rfl))
  have a44 : st_g (st_p (st_p (st_pp s1 6 3) 44 2 (zI C)) 44 3 (zI R)) 44 2 = zI C := by rw [g_p_k (by omega), g_p_eq]
  have b44 : st_g (st_p (st_p (st_pp s1 6 3) 44 2 (zI C)) 44 3 (zI R)) 44 3 = zI R := g_p_eq _ _ _ _
  have a6 : st_gp (st_p (st_p (st_pp s1 6 3) 44 2 (zI C)) 44 3 (zI R)) 6 = 3 := by rw [gp_p, gp_p, gp_pp, if_pos rfl]
  generalize st_p (st_p (st_pp s1 6 3) 44 2 (zI C)) 44 3 (zI R) = s2 at g1 f1 a44 b44 a6
  refine ct_begin (d := d + 57) (B := B) (N := N) (m := m) hm hN (by rw [g1 _ _ (by omega), g0 _ _ (by omega)]; exact h11) (fun i hi => ⟨(hB i hi).1, by rw [g1 _ _ (by omega), g0 _ _ (by omega)]; exact (hB i hi).2⟩) (fun t f3 p3 hT hCt t9 t10 => ?_)
  have gt : ∀ c k, c ≠ 1 → st_g t c k = st_g s2 c k := fun c k hh => f3.g (by omega)
  refine loop 5 0 0 [] t 0 rfl rfl (f1.trans (f3.mono (fun c k hh => Or.inl hh))) hT hCt ⟨Or.inl rfl, by omega, ?_, ?_, ?_, by omega, fun _ => rfl, fun z => by omega, fun n hn => by omega, fun n h1 h2 => ?_⟩ (Nat.le_refl _) (by rw [p3]; exact a6) (by rw [gt _ _ (by omega)]; exact a44) (by rw [gt _ _ (by omega)]; exact b44) (fun i y hy => absurd hy (by simp)) hr0.symm
  · rw [gt _ _ (by omega), g1 _ _ (by omega), g0 _ _ (by omega)]; exact h33
  · rw [gt _ _ (by omega), g1 _ _ (by omega)]; exact s35
  · rw [gt _ _ (by omega), g1 _ _ (by omega)]; exact s34
  · rw [gt _ _ (by omega), g1 _ _ (by omega), s36, tb_0]
end CTEXT2
