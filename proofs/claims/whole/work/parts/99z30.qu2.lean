/-! ===== query: the class, whole ===== -/
section QUERY2
theorem DC_ok {s : bi_St} {C : Nat} {D : List (Lp × Bool)} (h : DC s C D) : okD C D := fun i x hx => ⟨rl_okp (h.2.2 i x hx).1, (rl_le (h.2.2 i x hx).1).1⟩
section V
variable {X : bi_X} {d : Nat} {s : bi_St} {M : Ms6} {b b' a a' : Nat} {x y z : Int32}
theorem tgO_m1 : tgO M (-1) = true := by unfold tgO; rw [decide_eq_true rfl]; rfl
theorem tgO_y (h : nIn y (mv M) = true) : tgO M y = true := by unfold tgO; rw [h, Bool.or_true]
theorem tgO_n (h : ¬ y = -1) (h2 : nIn y (mv M) = false) : tgO M y = false := by unfold tgO; rw [h2, decide_eq_false h]; rfl
set_option maxHeartbeats 1000000 in
theorem cC_query (ho : okM M) (hC : RCl s b b' a a' M) {K : Int32 → bi_St → Prop} {E : Nat → bi_St → Prop} (kT : ∀ v M' t b b' a a', oQuery M x y z = .inr (v, M') → fcl 0 s t → RCl t b b' a a' M' → okM M' → okQu M x y z → K v t) (kF : ∀ e c t b b' a a', oQuery M x y z = .inl (e, c) → fcl 1 s t → RCl t b b' a a' M → E e t) : cI X (d + 61) 125 [.ref 0, .int x, .int y, .int z] s K E := by
  have hR6 : mR M ≤ 6 := ho.1.2.1
  have hbr := isB_r hC.1.2.1.1
  have ha := hC.1.2.2.1
  have hB := hC.1.2.1.1
  have hT := hC.2.1
  have hm := hT.1
  have no : ∀ e c, oQuery M x y z = .inl (e, c) → E e (st_ex s) := fun e c h => kF e c _ b b' a a' h (fcl_ex fsc.refl) (RCl_ex ho hC)
  refine en_X11_query (ct_needRole hC (fun hx => ?_) (fun hx => no 100 1 (ifF hx)))
  obtain ⟨u, hu, e, enx⟩ := nIn_y (n := mR M) (by omega) hx
  have body : tgO M y = true → cV X (d + 60) 153 [.ref 0, .int z] s (fun (s2 : bi_St) => st_isB (st_gp s2 0) ∧ (cI X (d + 60) 103 [.ref 43, .int z, .ref (st_gp s2 0), .ref 3] s2 (fun (r3 : Int32) (s3 : bi_St) => cV X (d + 60) 152 [.ref 0, .int r3] s3 (fun (s4 : bi_St) => ((¬ r3 = 0) → st_isB (st_gp s4 0) ∧ (st_isS (st_gp s4 2) ∧ (cV X (d + 60) 24 [.ref 57, .ref (st_gp s4 0), .ref (st_gp s4 2)] s4 (fun (s5 : bi_St) => cV X (d + 60) 40 [.ref 65, .ref 57, .ref 3, .int x, .int y] s5 (fun (s6 : bi_St) => cV X (d + 60) 44 [.ref 65] s6 (fun (s7 : bi_St) => cV X (d + 60) 46 [.ref 65, .ref 57, .ref 3] s7 (fun (s8 : bi_St) => K (0 : Int32) s8) (fun _ _ => False)) (fun _ _ => False)) (fun _ _ => False)) (fun _ _ => False)))) ∧ (¬ (¬ r3 = 0) → K (st_g s4 1 9) s4)) (fun _ _ => False)) (fun _ _ => False))) E := fun hy => by
    refine en_X11_needBytes ?_
    rw [hT.2.1]
    refine ⟨fun h => no 101 2 (by unfold oQuery; rw [ifT hx, ifT hy, ifF (nIn_neg h)]), fun h => ⟨fun h2 => ?_, fun h2 => no 101 2 (by unfold oQuery; rw [ifT hx, ifT hy, ifF (nIn_gt (by omega) h2)])⟩⟩
    have hz := nIn_m hm h h2
    obtain ⟨N, hN, e3, enz⟩ := nIn_y (by omega) hz
    have hov : ∀ r, cnd M.1.1 N (mC M) (mR M) 5 0 [] = r → oQuery M x y z = queO M u y r := fun r hr => by unfold oQuery; rw [ifT hx, ifT hy, ifT hz, enx, enz, hr]
    rw [hC.1.1.1, e3]
    refine ⟨hB, ct_readConditions hB hm (by omega) hT.2.1 hT.2.2 hC.2.2.1.1 ho.1.1.2 hR6 hC.2.2.2.1.2.2.2.1 hC.2.2.2.1.2.2.2.2 (fun er t hr ft t9 t10 e1 e3 => ?_) (fun D t hr ft hD h33 => ?_)⟩
    · refine en_X11_endReading ⟨fun _ => ⟨fun z => absurd rfl z, fun _ => ⟨rfl, rfl, ⟨fun z => absurd rfl z, fun _ => ?_⟩⟩⟩, fun z => absurd rfl z⟩
      show K (st_g (st_p (st_p (st_p t 1 1 (0 : Int32)) 0 15 (st_g (st_p t 1 1 (0 : Int32)) 1 10)) 76 0 (st_g (st_p (st_p t 1 1 (0 : Int32)) 0 15 (st_g (st_p t 1 1 (0 : Int32)) 1 10)) 76 0 + 1)) 1 9) (st_p (st_p (st_p t 1 1 (0 : Int32)) 0 15 (st_g (st_p t 1 1 (0 : Int32)) 1 10)) 76 0 (st_g (st_p (st_p t 1 1 (0 : Int32)) 0 15 (st_g (st_p t 1 1 (0 : Int32)) 1 10)) 76 0 + 1))
      rw [g_p_k (show 10 ≠ 1 by omega), t10, g_p_a (show 76 ≠ 0 by omega), g_p_a (show 76 ≠ 1 by omega), ft.g (show ¬ wCd 76 0 by unfold wCd; omega)]
      have g19 : st_g (st_p (st_p (st_p t 1 1 (0 : Int32)) 0 15 (zI er.2)) 76 0 (st_g s 76 0 + 1)) 1 9 = zI er.1 := by rw [g_p_a (by omega), g_p_a (by omega), g_p_k (by omega)]; exact t9
      rw [g19]
      have g : ∀ c k, ¬ wCd c k → ¬ (c = 1 ∧ k = 1) → ¬ (c = 0 ∧ k = 15) → c ≠ 76 → st_g (st_p (st_p (st_p t 1 1 (0 : Int32)) 0 15 (zI er.2)) 76 0 (st_g s 76 0 + 1)) c k = st_g s c k := fun c k h1 h2 h3 h4 => by rw [g_p_a h4, g_p, if_neg h3, g_p, if_neg h2]; exact ft.g h1
      refine kT _ (flM M er) _ b b' a a' (hov _ hr) ⟨by rw [show (st_p (st_p (st_p t 1 1 (0 : Int32)) 0 15 (zI er.2)) 76 0 (st_g s 76 0 + 1)).1 = t.1 from rfl, ft.1]; exact ⟨rfl, rfl⟩, fun c k hc => g c k (by unfold wCd; omega) (by omega) (by omega) (by omega), fun k => ft.2.2.2 112 k (Or.inr rfl)⟩ (RCl_rd ho hC g (fun i hi => ft.2.1 i hi) (by rw [g_p_a (by omega), g_p_a (by omega)]; exact g_p_eq _ _ _ _) (fun i hi => ?_) (by rw [g_p_a (by omega)]; exact g_p_eq _ _ _ _)) ⟨ho.1, ho.2.1, ho.2.2.1, ho.2.2.2⟩ (fun D _ _ _ h => by rw [enz, hr] at h; cases h)
      have h76 := hC.2.2.2.2.2.2.2.2.1
      unfold rf0
      by_cases ei : i = 0
      · rw [if_pos ei, ei, g_p_eq, h76 0 (by omega)]
      · rw [if_neg ei, g_p_k ei, g_p_a (by omega), g_p_a (by omega), ft.g (by unfold wCd; omega)]; exact h76 i hi
    · refine en_X11_endReading ⟨fun z => absurd z (by decide), fun _ => ⟨fun _ => ⟨fun _ => ?_, fun z => absurd (show ¬ (1 : Int32) = 0 by decide) z⟩, fun z => absurd (show ¬ (1 : Int32) = 0 by decide) z⟩⟩
      have g : ∀ c k, ¬ wCd c k → ¬ (c = 1 ∧ k = 1) → ¬ (c = 0 ∧ k = 15) → c ≠ 76 → st_g (st_p (st_p t 1 1 (0 : Int32)) 0 15 (-1 : Int32)) c k = st_g s c k := fun c k h1 h2 h3 h4 => by rw [g_p, if_neg h3, g_p, if_neg h2]; exact ft.g h1
      have hC1 : RCl (st_p (st_p t 1 1 (0 : Int32)) 0 15 (-1 : Int32)) b b' a a' (m1M M) := RCl_rd ho hC g (fun i hi => ft.2.1 i hi) (by rw [g_p_a (by omega)]; exact g_p_eq _ _ _ _) (fun i hi => by rw [g_p_a (by omega), g_p_a (by omega), ft.g (by unfold wCd; omega)]; exact hC.2.2.2.2.2.2.2.2.1 i hi) (g_p_eq _ _ _ _)
      have hD1 : DC (st_p (st_p t 1 1 (0 : Int32)) 0 15 (-1 : Int32)) (mC M) D := DC_fr (fun c k h1 h2 => by rw [g_p_a (by omega), g_p_a (by omega)]) hD
      have f1 : fcl 0 s (st_p (st_p t 1 1 (0 : Int32)) 0 15 (-1 : Int32)) := ⟨by rw [show (st_p (st_p t 1 1 (0 : Int32)) 0 15 (-1 : Int32)).1 = t.1 from rfl, ft.1]; exact ⟨rfl, rfl⟩, fun c k hc => g c k (by unfold wCd; omega) (by omega) (by omega) (by omega), fun k => ft.2.2.2 112 k (Or.inr rfl)⟩
      generalize st_p (st_p t 1 1 (0 : Int32)) 0 15 (-1 : Int32) = t1 at hC1 hD1 f1
      rw [hC1.1.1.1, hC1.1.1.2.2.1, e]
      refine ⟨hB, isS_31 ha, ?_⟩
      exact ct_queryRun (d := d + 53) ho hC1 hD1 hu hy (fun t2 f2 hC2 => kT _ (quM M u y D) t2 b b' a a' (hov _ hr) ⟨by have a1 := f1.1; have a2 := f2.1; omega, fun c k hc => (f2.2.1 c k hc).trans (f1.2.1 c k hc), fun k => (f2.2.2 k).trans (f1.2.2 k)⟩ hC2 (okM_qu ho (okN hC) hD.1) (fun D' _ _ _ h => by rw [enz, hr] at h; injection h with h; rw [← h]; exact DC_ok hD))
  refine ⟨fun hy => body (by rw [hy]; exact tgO_m1), fun hy => ct_needView hC (fun hy2 => body (tgO_y hy2)) (fun hy2 => no 100 1 (by unfold oQuery; rw [ifT hx, ifF (tgO_n hy hy2)]))⟩
end V
end QUERY2
