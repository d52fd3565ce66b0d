/-! ===== the reference reads a line ===== -/
section RLINE
/-- how a line may fail -/
def linF (B : Nat → Nat) (N : Nat) (T : Tx) (q : Nat) (e : Nat × Nat) : Prop := lin B N T q = .inl e ∨ ∃ x, lin B N T q = .inr x ∧ ¬ tG B N x.2 = 59 ∧ e = (1, tS B N x.2)
theorem fmap_l {α β : Type} {g : α → β} {x : Fl (α × Nat)} {e : Nat × Nat} (h : x = .inl e) : fmap g x = .inl e := by rw [h]; rfl
theorem fmap_r {α β : Type} {g : α → β} {x : Fl (α × Nat)} {y : α × Nat} (h : x = .inr y) : fmap g x = .inr (g y.1, y.2) := by rw [h]; rfl
theorem ct_begins0 {X : bi_X} {d : Nat} {K : Int32 → bi_St → Prop} {E : Nat → bi_St → Prop} {s : bi_St} {B : Nat → Nat} {N q : Nat} (hB : RB s B N) (hT : RT s B N q) (h3 : st_g s 77 3 = 0) (k : ∀ t, fr wRk s t → RB t B N → RT t B N (tE B N q) → K 1 t) : cI X (d + 2) 195 [.ref 77, .int (0 : Int32)] s K E :=
  en_X12_begins ⟨fun _ => ct_isGoodY h3 ⟨fun _ => ct_goR hB hT (fun t ht hBt hTt => k t ht hBt hTt), fun z => absurd (by decide) z⟩, fun z => absurd rfl z⟩
theorem ct_begins1 {X : bi_X} {d : Nat} {K : Int32 → bi_St → Prop} {E : Nat → bi_St → Prop} {s : bi_St} {B : Nat → Nat} {N q : Nat} (hT : RT s B N q) (h3 : st_g s 77 3 = 0) (k : K 0 (st_p (st_p s 77 3 (zI 2)) 77 4 (zI (tS B N q)))) : cI X (d + 2) 195 [.ref 77, .int (1 : Int32)] s K E :=
  en_X12_begins ⟨fun z => absurd z (by decide), fun _ => ct_wrong (f := 2) h3 hT.2.2.2.1 (ct_isGoodN (by rw [g_p_k (by omega), g_p_eq]; decide) ⟨fun z => absurd rfl z, fun _ => k⟩)⟩
theorem ct_line {X : bi_X} {d : Nat} {K : bi_St → Prop} {E : Nat → bi_St → Prop} {s : bi_St} {B : Nat → Nat} {N q lo : Nat} {T : Tx} (h : RXt s B N 0 T q lo)
    (kF : ∀ e t, linF B N T q e → fh wLn s t → st_g t 77 3 = zI e.1 → st_g t 77 4 = zI e.2 → 1 ≤ e.1 → e.1 ≤ 3 → K t)
    (kT : ∀ x t lo', lin B N T q = .inr x → tG B N x.2 = 59 → fh wLg s t → RXt t B N 0 x.1 (tE B N x.2) lo' → K t) : cV X (d + 9) 200 [.ref 77] s K E := by
  obtain ⟨⟨hB, hT, h3⟩, ⟨r14, r15, r16, r17, r18, r19⟩, ⟨c2, c3, c4, c5, c6, hl⟩, hG, hcl, hP, hV⟩ := id h
  have hN := hB.1
  have b155 : ∀ u e, linF B N T q e → fh wLn s u → st_g u 77 3 = zI e.1 → st_g u 77 4 = zI e.2 → 1 ≤ e.1 → e.1 ≤ 3 → at_X12_line_155 X (d + 9) K E u := fun u e hr fu u3 u4 e1 e3 =>
    go_X12_line_155 (ct_isSignA (fun v => ct_needN' (by rw [u3]; exact nz3 e1 e3) (kF e u hr fu u3 u4 e1 e3)))
  have e155 : ∀ u x lo', lin B N T q = .inr x → fh wLg s u → RXt u B N 3 x.1 x.2 lo' → at_X12_line_155 X (d + 9) K E u := by
    intro u x lo' hr fu hX
    have hl' := hX.2.2.1.2.2.2.2.2
    refine go_X12_line_155 (ct_isSignR (c := 59) (fun i hi => (hX.1.1.2.2 i hi).1) hX.1.2.1 rfl (by omega) (ct_needR (c := tG B N x.2 = 59) hX.1.1 hX.1.2.1 hX.1.2.2 (fun h59 t ht hBt hTt => ?_) (fun n59 => ?_)))
    · have hadv := tok_adv (B := B) hX.1.2.1.1 (show tK B N x.2 ≠ 0 by have := G_K (show tG B N x.2 ≠ 0 by omega); omega)
      exact kT x t lo' hr h59 (fu.rk ht (fun q h1 h2 => wLg_77 (by omega) (by omega))) (RXt_tok hX ht hBt hTt (by omega))
    · exact kF (1, tS B N x.2) _ (Or.inr ⟨x, hr, n59, rfl⟩) fu.b (by rw [g_p_k (by omega), g_p_eq]) (g_p_eq _ _ _ _) (by show 1 ≤ 1; omega) (by show 1 ≤ 3; omega)
  have wk : ∀ {c : Nat} {T' : Tx} {q' lo' : Nat} {u : bi_St}, RXt u B N 0 T' q' lo' → RXt u B N 3 T' q' lo' := fun {_ _ _ _ _} hh => ⟨hh.1, hh.2.1, ⟨hh.2.2.1.1, hh.2.2.1.2.1, hh.2.2.1.2.2.1, hh.2.2.1.2.2.2.1, hh.2.2.1.2.2.2.2.1, by have := hh.2.2.1.2.2.2.2.2; omega⟩, hh.2.2.2⟩
  have adv : kn B N q < 25 → q < tE B N q ∧ tE B N q ≤ N := fun hk => tok_adv (B := B) hT.1 (by have := (kn_lt hk).1; omega)
  have bad2 : lin B N T q = .inl (2, tS B N q) → at_X12_line_155 X (d + 9) K E (st_p (st_p s 77 3 (zI 2)) 77 4 (zI (tS B N q))) := fun hr =>
    b155 _ (2, tS B N q) (Or.inl hr) fh.refl.b (by rw [g_p_k (by omega), g_p_eq]) (g_p_eq _ _ _ _) (by show 1 ≤ 2; omega) (by show 2 ≤ 3; omega)
  have e6 : (knI (kn B N q) = 6) ↔ kn B N q = 6 := knI_eq (n := 6) kn_le (by omega)
  have e7 : (knI (kn B N q) = 7) ↔ kn B N q = 7 := knI_eq (n := 7) kn_le (by omega)
  have e8 : (knI (kn B N q) = 8) ↔ kn B N q = 8 := knI_eq (n := 8) kn_le (by omega)
  have e9 : (knI (kn B N q) = 9) ↔ kn B N q = 9 := knI_eq (n := 9) kn_le (by omega)
  have e13 : (knI (kn B N q) = 13) ↔ kn B N q = 13 := knI_eq (n := 13) kn_le (by omega)
  have g15 : (st_g s 77 15 = 6) ↔ xR T = 6 := by rw [r15]; exact zI_eq (b := 6) (by omega) (by omega)
  have g16 : (st_g s 77 16 = 16) ↔ xn T = 16 := by rw [r16]; exact zI_eq (b := 16) (by omega) (by omega)
  have g17 : (st_g s 77 17 = 8) ↔ xp T = 8 := by rw [r17]; exact zI_eq (b := 8) (by omega) (by omega)
  have g18 : (st_g s 77 18 = 3) ↔ xv T = 3 := by rw [r18]; exact zI_eq (b := 3) (by omega) (by omega)
  -- a policy's line
  have s85 : (kn B N q = 8 ∨ kn B N q = 9) → at_X12_line_85 X (d + 9) K E s (knI (kn B N q)) := fun hk => by
    have hlin : lin B N T q = if xp T = 8 then .inl (2, tS B N q) else fmap (txP T) (rdPol B N (xC T) (xR T) (decide (kn B N q = 9)) (tE B N q)) := by unfold lin; rw [if_neg (by omega), if_neg (by omega), if_pos hk]
    have ers : knI (kn B N q) - 8 = b2i (decide (kn B N q = 9)) := by rcases hk with h8 | h8 <;> rw [h8] <;> rfl
    have ha := adv (by omega)
    refine go_X12_line_85 ?_
    rw [g17, ers]
    refine ⟨fun n8 => ct_begins0 hB hT h3 (fun t ht hBt hTt => ⟨fun z => absurd z (by decide), fun _ => ?_⟩), fun k8 => ct_begins1 hT h3 ⟨fun _ => bad2 (by rw [hlin, if_pos (Decidable.of_not_not k8)]), fun z => absurd rfl z⟩⟩
    rw [if_neg n8] at hlin
    have ft : fh wLg s t := fh.refl.rk ht (fun q h1 h2 => wLg_77 (by omega) (by omega))
    exact ct_readsPolicy (d := d) (RXt_tok (c' := 0) h ht hBt hTt (by omega)) (by omega) (fun e u he hu u3 u4 e1 e3 => b155 u e (Or.inl (by rw [hlin]; exact fmap_l he)) ((ft.mono wLg_wLn).trans hu) u3 u4 e1 e3) (fun x u lo' he hu hX => e155 u (txP T x.1, x.2) lo' (by rw [hlin]; exact fmap_r he) (ft.trans hu) hX)
  refine en_X12_line (ct_knownWord hN hT ?_)
  rw [e6, e7, e8, e9, e13, g15, g16, g18]
  refine ⟨fun n6 => ⟨fun n7 => ⟨fun k8 => s85 (Or.inl k8), fun n8 => ⟨fun n9 => ⟨fun n13 => ?_, fun k13 => ?_⟩, fun k9 => s85 (Or.inr (Decidable.of_not_not k9))⟩⟩, fun k7 => ?_⟩, fun k6 => ?_⟩
  · have hlin : lin B N T q = .inl (1, tS B N q) := by unfold lin; rw [if_neg n6, if_neg n7, if_neg (by omega), if_neg n13]
    exact ct_wrong (f := 1) h3 hT.2.2.2.1 (b155 _ (1, tS B N q) (Or.inl hlin) fh.refl.b (by rw [g_p_k (by omega), g_p_eq]) (g_p_eq _ _ _ _) (by show 1 ≤ 1; omega) (by show 1 ≤ 3; omega))
  · have k13 := Decidable.of_not_not k13
    have hlin : lin B N T q = if xv T = 3 then .inl (2, tS B N q) else fmap (txV T) (rdVw B N (xC T) (xR T) (xv T) (tE B N q)) := by unfold lin; rw [if_neg (by omega), if_neg (by omega), if_neg (by omega), if_pos k13]
    have ha := adv (by omega)
    refine ⟨fun n3 => ct_begins0 hB hT h3 (fun t ht hBt hTt => ⟨fun z => absurd z (by decide), fun _ => ?_⟩), fun k3 => ct_begins1 hT h3 ⟨fun _ => bad2 (by rw [hlin, if_pos (Decidable.of_not_not k3)]), fun z => absurd rfl z⟩⟩
    rw [if_neg n3] at hlin
    have ft : fh wLg s t := fh.refl.rk ht (fun q h1 h2 => wLg_77 (by omega) (by omega))
    exact ct_readsView (d := d) (RXt_tok (c' := 0) h ht hBt hTt (by omega)) (by omega) (fun e u he hu u3 u4 e1 e3 => b155 u e (Or.inl (by rw [hlin]; exact fmap_l he)) ((ft.mono wLg_wLn).trans hu) u3 u4 e1 e3) (fun x u lo' he hu hX => e155 u (txV T x.1, x.2) lo' (by rw [hlin]; exact fmap_r he) (ft.trans hu) hX)
  · have k7 := Decidable.of_not_not k7
    have hlin : lin B N T q = if xn T = 16 then .inl (2, tS B N q) else fmap (txW T) (rdRow B N (xC T) 0 (tE B N q) (fun _ => 0)) := by unfold lin; rw [if_neg (by omega), if_pos k7]
    have ha := adv (by omega)
    refine ⟨fun n3 => ct_begins0 hB hT h3 (fun t ht hBt hTt => ⟨fun z => absurd z (by decide), fun _ => ?_⟩), fun k3 => ct_begins1 hT h3 ⟨fun _ => bad2 (by rw [hlin, if_pos (Decidable.of_not_not k3)]), fun z => absurd rfl z⟩⟩
    rw [if_neg n3] at hlin
    have ft : fh wLg s t := fh.refl.rk ht (fun q h1 h2 => wLg_77 (by omega) (by omega))
    exact ct_readsRow (d := d + 4) (RXt_tok (c' := 0) h ht hBt hTt (by omega)) (by omega) (fun e u he hu u3 u4 e1 e3 => b155 u e (Or.inl (by rw [hlin]; exact fmap_l he)) ((ft.mono wLg_wLn).trans hu) u3 u4 e1 e3) (fun x u he hu hX => e155 u (txW T x.1, x.2) lo (by rw [hlin]; exact fmap_r he) (ft.trans hu) (wk (c := 0) hX))
  · have k6 := Decidable.of_not_not k6
    have hlin : lin B N T q = if xR T = 6 then .inl (2, tS B N q) else fmap (txR T) (rdRole B N (xR T) 701 (tE B N q) 0) := by unfold lin; rw [if_pos k6]
    have ha := adv (by omega)
    refine ⟨fun n3 => ct_begins0 hB hT h3 (fun t ht hBt hTt => ⟨fun z => absurd z (by decide), fun _ => ?_⟩), fun k3 => ct_begins1 hT h3 ⟨fun _ => bad2 (by rw [hlin, if_pos (Decidable.of_not_not k3)]), fun z => absurd rfl z⟩⟩
    rw [if_neg n3] at hlin
    have ft : fh wLg s t := fh.refl.rk ht (fun q h1 h2 => wLg_77 (by omega) (by omega))
    exact ct_readsRole (d := d + 4) (RXt_tok (c' := 0) h ht hBt hTt (by omega)) (by omega) (by omega) (fun e u he hu u3 u4 e1 e3 => b155 u e (Or.inl (by rw [hlin]; exact fmap_l he)) ((ft.mono wLg_wLn).trans hu) u3 u4 e1 e3) (fun x u he hu hX => e155 u (txR T x.1, x.2) lo (by rw [hlin]; exact fmap_r he) (ft.trans hu) (wk (c := 0) hX))
theorem ct_copies {X : bi_X} {d : Nat} {K : bi_St → Prop} {E : Nat → bi_St → Prop} {s : bi_St} {a b n : Nat} (ha : ∀ s : bi_St, bi_kd (st_mm s) a = (14, n)) (hb : ∀ s : bi_St, bi_kd (st_mm s) b = (14, n)) (ha2 : Nat.beq a 4999 = false) (hb2 : Nat.beq b 4999 = false) (hab : a ≠ b) (hn : n < 2147483648)
    (k : ∀ t, fh (fun c _ => c = b) s t → (∀ j, j < n → st_g t b j = st_g s a j) → K t) : cV X d 165 [.ref 77, .ref a, .ref b] s K E := by
  have loop : ∀ m i u, m + i = n → fh (fun c _ => c = b) s u → (∀ j, j < i → st_g u b j = st_g s a j) → at_X12_copies_2 X d K E u (zI i) a b := by
    intro m
    induction m with
    | zero =>
      intro i u h1 fu uj
      have e : (Int32.ofNat n ≤ zI i) ↔ n ≤ i := zI_le (a := n) hn (by omega)
      refine go_X12_copies_2 (a0 := a) (a1 := b) ha ha2 hb hb2 ?_
      rw [e]
      exact ⟨fun _ => k u fu (fun j hj => uj j (by omega)), fun z => by omega⟩
    | succ m ih =>
      intro i u h1 fu uj
      have e : (Int32.ofNat n ≤ zI i) ↔ n ≤ i := zI_le (a := n) hn (by omega)
      refine go_X12_copies_2 (a0 := a) (a1 := b) ha ha2 hb hb2 ?_
      rw [e, zI_nat (by omega), zI_add1]
      refine ⟨fun z => by omega, fun _ => ⟨in_zI (by omega) hn, in_zI (by omega) hn, ih (i + 1) _ (by omega) (fu.p rfl) (fun j hj => ?_)⟩⟩
      rw [g_p]
      by_cases hji : j = i
      · rw [if_pos ⟨rfl, hji⟩, fu.g hab, hji]
      · rw [if_neg (fun z => hji z.2)]; exact uj j (by omega)
  exact en_X12_copies ha ha2 hb hb2 (loop n 0 s (by omega) fh.refl (fun j hj => by omega))
theorem ct_rightY {X : bi_X} {d : Nat} {K : Int32 → bi_St → Prop} {E : Nat → bi_St → Prop} {s : bi_St} {x : Int32} (h : st_g s 77 0 = 0) (k : K 1 s) : cI X d 163 [.ref 77, .int (1 : Int32), .int x] s K E := en_X12_right ⟨fun z => absurd h z, fun _ => ⟨fun _ => ⟨fun z => absurd h z, fun _ => k⟩, fun z => absurd (by decide) z⟩⟩
theorem ct_rightN {X : bi_X} {d : Nat} {K : Int32 → bi_St → Prop} {E : Nat → bi_St → Prop} {s : bi_St} {x : Int32} (h : st_g s 77 0 = 0) (hx : ¬ x = 0) (k : K 0 (st_p s 77 0 x)) : cI X d 163 [.ref 77, .int (0 : Int32), .int x] s K E := en_X12_right ⟨fun z => absurd h z, fun _ => ⟨fun z => absurd rfl z, fun _ => ⟨fun _ => k, fun z => absurd (by rw [g_p_eq]; exact hx) z⟩⟩⟩
end RLINE
