/-! ===== trying other numbers in cells: the class's search ===== -/
section SEARCH
/-- the state with another number in a cell -/
def cs (S : Sta) (r c : Nat) (v : Int32) : Sta := (S.1, S.2.1, S.2.2.1, fun q => if q = r then va_up (S.2.2.2 r) c v else S.2.2.2 q)
/-- the numbers -9 to 9 -/
def vv (j : Nat) : Int32 := -9 + zI j
theorem vv_0 : vv 0 = -9 := by decide
theorem vv_add1 (j : Nat) : vv j + 1 = vv (j + 1) := by
  unfold vv
  rw [Int32.add_assoc, zI_add1]
theorem vv_19 {j : Nat} (h : j ≤ 19) : ((9 : Int32) < vv j ↔ j = 19) ∧ ((10 : Int32) ≤ vv j ↔ j = 19) := by
  have : ∀ j : Fin 20, ((9 : Int32) < vv j.1 ↔ j.1 = 19) ∧ ((10 : Int32) ≤ vv j.1 ↔ j.1 = 19) := by decide
  exact this ⟨j, by omega⟩
def cellOf (r c : Nat) (v : Int32) : Int32 := (((1000 : Int32) * zI r) + ((100 : Int32) * zI c)) + v + 50
abbrev Wt : Type := Nat → Nat × Nat × Bool
abbrev Qs : Type := Int32 × Int32 × (Nat → Int32) × Int32
/-- what was seen, of the class -/
def WC (s : bi_St) (a m : Nat) (W : Wt) : Prop := m ≤ 8 ∧ st_g s a 6 = zI m ∧ ∀ i, i < m → st_g s (a + 4) i = zI (W i).1 ∧ (W i).1 < 6 ∧ st_g s (a + 5) i = zI (W i).2.1 ∧ (W i).2.1 < 16 ∧ tb (st_g s a 7) i = (W i).2.2
/-- what was seen, of the reference -/
def WR (s : bi_St) (m : Nat) (W : Wt) : Prop := m ≤ 8 ∧ st_g s 77 62 = zI m ∧ ∀ i, i < m → st_g s 106 (3 * i) = zI (W i).1 ∧ (W i).1 < 6 ∧ st_g s 106 (3 * i + 1) = zI (W i).2.1 ∧ (W i).2.1 < 16 ∧ st_g s 106 (3 * i + 2) = b2i (W i).2.2
/-- whether what is seen i is so -/
def soW (p : Nat) (f : Nat → Pol) (S : Sta) (W : Wt) (i : Nat) : Bool := decide ((W i).2.1 < S.2.2.1) && (reads p f S (W i).1 (W i).2.1 == (W i).2.2)
def ft (p : Nat) (f : Nat → Pol) (S : Sta) (m : Nat) (W : Wt) (aim u r c j : Nat) : Bool :=
  if aim = 0 then po_let p f (en (cs S r c (vv j)) u r) S.2.1 2 true && !(reads p f (cs S r c (vv j)) u r)
  else allB (fun i => !(decide ((W i).2.1 = r)) || (reads p f (cs S r c (vv j)) (W i).1 r == (W i).2.2)) m
/-- whether a role's sight of the row turns -/
def tq (p : Nat) (f : Nat → Pol) (S : Sta) (r c j u : Nat) : Bool := reads p f (cs S r c (vv j)) u r != reads p f S u r
def lkq (R p : Nat) (f : Nat → Pol) (S : Sta) (r c j : Nat) (q : (Nat → Int32) × Int32) : (Nat → Int32) × Int32 :=
  (fun u => if u < R ∧ tq p f S r c j u = true then q.1 u ||| s1 r else q.1 u, q.2 ||| bo (fun u => !(tq p f S r c j u)) R)
def stp (R p : Nat) (f : Nat → Pol) (S : Sta) (aim : Nat) (r c j : Nat) (q : Qs) : Qs := (q.1 + 1, if q.2.1 = -1 then cellOf r c (vv j) else q.2.1, if aim = 2 then lkq R p f S r c j q.2.2 else q.2.2)
/-- one column -/
def sr1 (R p : Nat) (f : Nat → Pol) (S : Sta) (aim : Nat) (g : Nat → Nat → Nat → Bool) (r c : Nat) : Nat → Qs → Qs
  | 0, q => q
  | j + 1, q => if g r c j then stp R p f S aim r c j (sr1 R p f S aim g r c j q) else sr1 R p f S aim g r c j q
def sr2 (R p : Nat) (f : Nat → Pol) (S : Sta) (aim : Nat) (g : Nat → Nat → Nat → Bool) (r : Nat) : Nat → Qs → Qs
  | 0, q => q
  | c + 1, q => sr1 R p f S aim g r c 19 (sr2 R p f S aim g r c q)
def sr3 (R p : Nat) (f : Nat → Pol) (S : Sta) (aim : Nat) (g : Nat → Nat → Nat → Bool) (C : Nat) : Nat → Qs → Qs
  | 0, q => q
  | r + 1, q => sr2 R p f S aim g r C (sr3 R p f S aim g C r q)
theorem sr1_congr {R p : Nat} {f : Nat → Pol} {S : Sta} {aim : Nat} {g h : Nat → Nat → Nat → Bool} {r c : Nat} : ∀ n q, (∀ j, j < n → g r c j = h r c j) → sr1 R p f S aim g r c n q = sr1 R p f S aim h r c n q := by
  intro n q
  induction n with
  | zero => intro _; rfl
  | succ n ih => intro e; rw [sr1, sr1, ih (fun j hj => e j (by omega)), e n (by omega)]
theorem sr2_congr {R p : Nat} {f : Nat → Pol} {S : Sta} {aim : Nat} {g h : Nat → Nat → Nat → Bool} {r : Nat} : ∀ n q, (∀ c j, c < n → j < 19 → g r c j = h r c j) → sr2 R p f S aim g r n q = sr2 R p f S aim h r n q := by
  intro n q
  induction n with
  | zero => intro _; rfl
  | succ n ih => intro e; rw [sr2, sr2, ih (fun c j hc hj => e c j (by omega) hj), sr1_congr 19 _ (fun j hj => e n j (by omega) hj)]
theorem sr3_congr {R p : Nat} {f : Nat → Pol} {S : Sta} {aim : Nat} {g h : Nat → Nat → Nat → Bool} {C : Nat} : ∀ n q, (∀ r c j, r < n → c < C → j < 19 → g r c j = h r c j) → sr3 R p f S aim g C n q = sr3 R p f S aim h C n q := by
  intro n q
  induction n with
  | zero => intro _; rfl
  | succ n ih => intro e; rw [sr3, sr3, ih (fun r c j hr hc hj => e r c j (by omega) hc hj), sr2_congr C _ (fun c j hc hj => e n c j (by omega) hc hj)]
theorem sr1_none {R p : Nat} {f : Nat → Pol} {S : Sta} {aim : Nat} {g : Nat → Nat → Nat → Bool} {r c : Nat} : ∀ n q, (∀ j, j < n → g r c j = false) → sr1 R p f S aim g r c n q = q := by
  intro n q
  induction n with
  | zero => intro _; rfl
  | succ n ih => intro e; rw [sr1, ih (fun j hj => e j (by omega)), e n (by omega)]; rfl
theorem sr2_none {R p : Nat} {f : Nat → Pol} {S : Sta} {aim : Nat} {g : Nat → Nat → Nat → Bool} {r : Nat} : ∀ n q, (∀ c j, c < n → j < 19 → g r c j = false) → sr2 R p f S aim g r n q = q := by
  intro n q
  induction n with
  | zero => intro _; rfl
  | succ n ih => intro e; rw [sr2, ih (fun c j hc hj => e c j (by omega) hj), sr1_none 19 _ (fun j hj => e n j (by omega) hj)]
/-- what the search may change of the class -/
def wS (a k : Nat) : Bool := wA a k || (Nat.beq a 64 || (Nat.beq a 62 && Nat.ble 3 k))
theorem wA_wS (a k : Nat) (h : wA a k = true) : wS a k = true := by unfold wS; rw [h]; rfl
theorem wS_ne {a k : Nat} (h1 : a ≠ 60) (h2 : a ≠ 59) (h3 : a ≠ 57) (h4 : a ≠ 64) (h5 : a ≠ 62) : wS a k = false := by
  unfold wS
  rw [wA_ne h1 h2 h3, beq_ne h4, beq_ne h5]; rfl
theorem JC_wS {s t : bi_St} {b a C R p : Nat} {f : Nat → Pol} {S : Sta} (h : fr wS s t) (hj : JC s b a C R p f S) : JC t b a C R p f S := by
  obtain ⟨h1, h2, h3, h4, h5, h6, h7⟩ := hj
  have hb : b ≤ 19 := by rcases h1.1 with z | z <;> omega
  have ha : a ≤ 51 := by rcases h4.1 with z | z | z | z <;> omega
  exact ⟨BC_fr (fun c k x y => h.g (wS_ne (by omega) (by omega) (by omega) (by omega) (by omega))) h1, by rw [h.gp]; exact h2, by rw [h.gp]; exact h3, SC_fr (fun c k x y => h.g (wS_ne (by omega) (by omega) (by omega) (by omega) (by omega))) h4, by rw [h.g (wS_ne (by omega) (by omega) (by omega) (by omega) (by omega))]; exact h5, h6, fun u hu => by rw [h.g (wS_ne (by omega) (by omega) (by omega) (by omega) (by omega))]; exact h7 u hu⟩
theorem WC_fr {s t : bi_St} {a m : Nat} {W : Wt} (h : ∀ c k, a ≤ c → c ≤ a + 5 → st_g t c k = st_g s c k) (hw : WC s a m W) : WC t a m W := by
  obtain ⟨h1, h2, h3⟩ := hw
  refine ⟨h1, by rw [h a 6 (by omega) (by omega)]; exact h2, fun i hi => ?_⟩
  rw [h (a + 4) i (by omega) (by omega), h (a + 5) i (by omega) (by omega), h a 7 (by omega) (by omega)]
  exact h3 i hi
theorem WC_wS {s t : bi_St} {a m : Nat} {W : Wt} (hS : st_isS a) (h : fr wS s t) (hw : WC s a m W) : WC t a m W := by
  have ha : a ≤ 51 := by rcases hS with z | z | z | z <;> omega
  exact WC_fr (fun c k x y => h.g (wS_ne (by omega) (by omega) (by omega) (by omega) (by omega))) hw
def mQs (t : bi_St) (q : Qs) : Prop := st_g t 62 4 = q.1 ∧ st_g t 62 5 = q.2.1 ∧ (∀ u, u < 6 → st_g t 64 u = q.2.2.1 u) ∧ st_g t 62 3 = q.2.2.2
theorem mQs_fr {s t : bi_St} {q : Qs} (h : fr wA s t) (hq : mQs s q) : mQs t q := ⟨by rw [h.g rfl]; exact hq.1, by rw [h.g rfl]; exact hq.2.1, fun u hu => by rw [h.g rfl]; exact hq.2.2.1 u hu, by rw [h.g rfl]; exact hq.2.2.2⟩
/-- the line is the row with c as v -/
def lnC (t : bi_St) (C : Nat) (S : Sta) (r c : Nat) (v : Int32) : Prop := ∀ q, q < C → st_g t 59 q = va_up (S.2.2.2 r) c v q
theorem envC_cs {t : bi_St} {C : Nat} {S : Sta} {u r c : Nat} {v : Int32} (hl : lnC t C S r c v) (h5 : st_g t 57 5 = zI u) (h6 : st_g t 57 6 = clo S.1 (s1 u)) : envC t C (en (cs S r c v) u r) := by
  refine ⟨fun q hq => ?_, h5, h6⟩
  rw [hl q hq]
  show _ = (if r = r then va_up (S.2.2.2 r) c v else S.2.2.2 r) q
  simp
theorem fits_loop {X : bi_X} {d : Nat} {K : Int32 → bi_St → Prop} {E : Nat → bi_St → Prop} {s : bi_St} {b a C R p r c j m : Nat} {f : Nat → Pol} {S : Sta} {W : Wt} (hj : JC s b a C R p f S) (hw : WC s a m W) (hr : r < 16)
    (k : ∀ t, fr wA s t → (∀ q, st_g t 59 q = st_g s 59 q) → K (b2i (allB (fun i => !(decide ((W i).2.1 = r)) || (reads p f (cs S r c (vv j)) (W i).1 r == (W i).2.2)) m)) t) :
    ∀ e n (t : bi_St), e = m - n → n ≤ m → fr wA s t → lnC t C S r c (vv j) → (∀ q, st_g t 59 q = st_g s 59 q) → allB (fun i => !(decide ((W i).2.1 = r)) || (reads p f (cs S r c (vv j)) (W i).1 r == (W i).2.2)) n = true → at_X1_fits_36 X (d + 4) K E t (zI r) (zI n) := by
  have hS := hj.2.2.2.1.1
  have hm8 := hw.1
  intro e
  induction e with
  | zero =>
    intro n t he hn ht hl h59 hall
    have : n = m := by omega
    subst this
    have hjt := JC_fr ht hj
    have hwt := WC_wS hS (ht.mono wA_wS) hw
    have k := k t ht h59
    rw [hall] at k
    refine go_X1_fits_36 ⟨by rw [hjt.2.2.1]; exact hS, fun _ => k, fun z => absurd ?_ z⟩
    rw [hjt.2.2.1, hwt.2.1]; exact (zI_le (by omega) (by omega)).mpr (Nat.le_refl _)
  | succ e ih =>
    intro n t he hn ht hl h59 hall
    have hjt := JC_fr ht hj
    have hwt := WC_wS hS (ht.mono wA_wS) hw
    obtain ⟨w1, w2, w3, w4, w5⟩ := hwt.2.2 n (by omega)
    refine go_X1_fits_36 ⟨by rw [hjt.2.2.1]; exact hS, fun z => ?_, fun _ => ⟨by rw [hjt.2.2.1]; exact hS, in_zI (by omega) (by omega), ?_⟩⟩
    · rw [hjt.2.2.1, hwt.2.1, zI_le (by omega) (by omega)] at z; omega
    · rw [hjt.2.2.1, zI_nat (show n < 2147483648 by omega), w3, w1, zI_eq (by omega) (by omega), zI_add1]
      refine ⟨fun hne => ih (n + 1) t (by omega) (by omega) ht hl h59 ?_, fun heq => ⟨hS, in_zI (by omega) (by omega), ct_become w2 (fun t1 ht1 h5 h6 h59a => ?_)⟩⟩
      · rw [allB, hall]; simp [hne]
      · have heq := Decidable.of_not_not heq
        have hj1 := JC_fr ht1 hjt
        have hl1 : lnC t1 C S r c (vv j) := fun q hq => by rw [h59a]; exact hl q hq
        refine ct_allowsJ (cmd := 0) (how := false) hj1 (envC_cs (u := (W n).1) hl1 h5 (by rw [h6]; exact hjt.2.2.2.2.2.2 _ w2)) (by omega) (fun t2 ht2 => ?_)
        have hj2 := JC_fr (ht2.mono wH_wA) hj1
        have ht' := ht.trans (ht1.trans (ht2.mono wH_wA))
        have hw2 := WC_wS hS (ht'.mono wA_wS) hw
        have h59b : ∀ q, st_g t2 59 q = st_g s 59 q := fun q => by rw [ht2.g (wH_ne (by omega) (by omega)), h59a]; exact h59 q
        refine ⟨by rw [hj2.2.2.1]; exact hS, ?_⟩
        rw [hj2.2.2.1]
        refine ct_bit (by omega) ?_
        rw [(hw2.2.2 n (by omega)).2.2.2.2]
        have e1 : po_let p f (en (cs S r c (vv j)) (W n).1 r) S.2.1 0 false = reads p f (cs S r c (vv j)) (W n).1 r := rfl
        rw [e1, b2i_eq1, b2i_eq1]
        have e0 : ∀ b : Bool, (b2i b = 0) ↔ b = false := b2i_ne0
        rw [e0]
        have yes : (reads p f (cs S r c (vv j)) (W n).1 r == (W n).2.2) = true → at_X1_fits_36 X (d + 4) K E t2 (zI r) (zI (n + 1)) := fun h => ih (n + 1) t2 (by omega) (by omega) ht' (fun q hq => by rw [ht2.g (wH_ne (by omega) (by omega))]; exact hl1 q hq) h59b (by rw [allB, hall, h]; simp)
        have no : (reads p f (cs S r c (vv j)) (W n).1 r == (W n).2.2) = false → K 0 t2 := fun h => by
          have k := k t2 ht' h59b
          have : allB (fun i => !(decide ((W i).2.1 = r)) || (reads p f (cs S r c (vv j)) (W i).1 r == (W i).2.2)) m = false := by
            rw [← Bool.not_eq_true, allB_iff]
            intro z
            have := z n (by omega)
            rw [h] at this; simp [heq] at this
          rw [this] at k; exact k
        cases h1 : reads p f (cs S r c (vv j)) (W n).1 r <;> cases h2 : (W n).2.2 <;> rw [h1, h2] at yes no <;> simp <;> first | exact yes rfl | exact no rfl
theorem ct_fits {X : bi_X} {d : Nat} {K : Int32 → bi_St → Prop} {E : Nat → bi_St → Prop} {s : bi_St} {b a C R p r c j m aim u : Nat} {f : Nat → Pol} {S : Sta} {W : Wt} (hj : JC s b a C R p f S) (hw : WC s a m W) (hr : r < 16) (ha : aim ≤ 2) (hl : lnC s C S r c (vv j)) (h0 : aim = 0 → st_g s 57 5 = zI u ∧ st_g s 57 6 = clo S.1 (s1 u))
    (k : ∀ t, fr wA s t → (∀ q, st_g t 59 q = st_g s 59 q) → (aim = 0 → st_g t 57 5 = zI u ∧ st_g t 57 6 = clo S.1 (s1 u)) → K (b2i (ft p f S m W aim u r c j)) t) : cI X (d + 4) 20 [.ref 62, .int (zI r), .int (zI aim)] s K E := by
  have e0 : (zI aim = 0) ↔ aim = 0 := zI_eq (b := 0) (by omega) (by omega)
  refine en_X1_fits ?_
  rw [e0]
  refine ⟨fun hne => ?_, fun heq => ?_⟩
  · exact fits_loop hj hw hr (fun t ht h59 => by have := k t ht h59 (fun z => absurd z hne); simpa only [ft, if_neg hne] using this) m 0 s (by omega) (by omega) fr.refl hl (fun _ => rfl) rfl
  · have heq := Decidable.of_not_not heq
    obtain ⟨h5, h6⟩ := h0 heq
    have henv := envC_cs hl h5 h6
    refine ct_allowsJ (cmd := 2) (how := true) hj henv (by omega) (fun t1 ht1 => ?_)
    have hj1 := JC_fr (ht1.mono wH_wA) hj
    rw [b2i_ne0]
    refine ⟨fun hf => ?_, fun hf => ct_allowsJ (cmd := 0) (how := false) hj1 (envC_fr ht1 henv) (by omega) (fun t2 ht2 => ?_)⟩
    · have := k t1 (ht1.mono wH_wA) (fun q => ht1.g (wH_ne (by omega) (by omega))) (fun _ => ⟨by rw [ht1.g rfl]; exact h5, by rw [ht1.g rfl]; exact h6⟩)
      simp only [ft, if_pos heq, hf] at this
      exact this
    · have := k t2 ((ht1.trans ht2).mono wH_wA) (fun q => (ht1.trans ht2).g (wH_ne (by omega) (by omega))) (fun _ => ⟨by rw [(ht1.trans ht2).g rfl]; exact h5, by rw [(ht1.trans ht2).g rfl]; exact h6⟩)
      have hf : po_let p f (en (cs S r c (vv j)) u r) S.2.1 2 true = true := by simpa using hf
      simp only [ft, if_pos heq, hf, Bool.true_and] at this
      have e1 : po_let p f (en (cs S r c (vv j)) u r) S.2.1 0 false = reads p f (cs S r c (vv j)) u r := rfl
      rw [e1, b2i_ne0]
      refine ⟨fun h => ?_, fun h => ?_⟩
      · have h : reads p f (cs S r c (vv j)) u r = true := by simpa using h
        rw [h] at this; exact this
      · rw [Decidable.of_not_not h] at this; exact this
theorem ct_noteFound {X : bi_X} {d : Nat} {K : bi_St → Prop} {E : Nat → bi_St → Prop} {s : bi_St} {r c j : Nat} {q : Qs} (hq : mQs s q) (k : ∀ t, fr (fun a k => Nat.beq a 62 && Nat.ble 4 k) s t → mQs t (q.1 + 1, if q.2.1 = -1 then cellOf r c (vv j) else q.2.1, q.2.2) → K t) : cV X d 21 [.ref 62, .int (zI r), .int (zI c), .int (vv j)] s K E := by
  obtain ⟨h1, h2, h3, h4⟩ := hq
  refine en_X1_noteFound ?_
  have e5 : st_g (st_p s 62 4 (st_g s 62 4 + 1)) 62 5 = q.2.1 := by rw [g_p_k (by omega)]; exact h2
  rw [e5]
  refine ⟨fun h => k _ (fr.refl.p rfl) ⟨by rw [g_p_eq, h1], by rw [g_p_k (by omega), h2]; simp [h], fun u hu => by rw [g_p_a (by omega)]; exact h3 u hu, by rw [g_p_k (by omega)]; exact h4⟩, fun h => k _ ((fr.refl.p rfl).p rfl) ⟨by rw [g_p_k (by omega), g_p_eq, h1], ?_, fun u hu => by rw [g_p_a (by omega), g_p_a (by omega)]; exact h3 u hu, by rw [g_p_k (by omega), g_p_k (by omega)]; exact h4⟩⟩
  rw [g_p_eq]; simp only [Decidable.of_not_not h, if_true]; rfl
/-- as far as role n -/
def lkn (p : Nat) (f : Nat → Pol) (S : Sta) (r c j : Nat) (q : (Nat → Int32) × Int32) (n : Nat) : (Nat → Int32) × Int32 :=
  (fun u => if u < n ∧ tq p f S r c j u = true then q.1 u ||| s1 r else q.1 u, q.2 ||| bo (fun u => !(tq p f S r c j u)) n)
theorem ct_noteTurns {X : bi_X} {d : Nat} {K : bi_St → Prop} {E : Nat → bi_St → Prop} {s : bi_St} {b a C R p r c j : Nat} {f : Nat → Pol} {S : Sta} {q : Qs} (hj : JC s b a C R p f S) (hr : r < S.2.2.1) (hl : lnC s C S r c (vv j)) (h63 : ∀ u, u < R → st_g s 63 u = bo (reads p f S u) S.2.2.1) (hq : mQs s q)
    (k : ∀ t, fr wS s t → (∀ q, st_g t 59 q = st_g s 59 q) → mQs t (q.1, q.2.1, lkq R p f S r c j q.2.2) → K t) : cV X (d + 4) 22 [.ref 62, .int (zI r), .int 2] s K E := by
  have hR := hj.2.2.2.2.2.1
  have hn16 := hj.2.2.2.1.2.1
  have loop : ∀ m n (t : bi_St), m = R - n → n ≤ R → fr wS s t → (∀ q, st_g t 59 q = st_g s 59 q) → mQs t (q.1, q.2.1, lkn p f S r c j q.2.2 n) → at_X1_noteTurns_8 X (d + 4) K E t (zI r) (zI n) := by
    intro m
    induction m with
    | zero =>
      intro n t hm hn ht h59 hqt
      have : n = R := by omega
      subst this
      have hjt := JC_wS ht hj
      refine go_X1_noteTurns_8 ⟨by rw [hjt.2.1]; exact hjt.1.1, fun _ => k t ht h59 hqt, fun z => absurd ?_ z⟩
      rw [hjt.2.1, hjt.2.2.2.2.1]; exact (zI_le (by omega) (by omega)).mpr (Nat.le_refl _)
    | succ m ih =>
      intro n t hm hn ht h59 hqt
      have hjt := JC_wS ht hj
      refine go_X1_noteTurns_8 ⟨by rw [hjt.2.1]; exact hjt.1.1, fun z => ?_, fun _ => ct_become (by omega) (fun t1 ht1 h5 h6 h59a => ?_)⟩
      · rw [hjt.2.1, hjt.2.2.2.2.1, zI_le (by omega) (by omega)] at z; omega
      · have hj1 := JC_fr ht1 hjt
        have hl1 : lnC t1 C S r c (vv j) := fun z hz => by rw [h59a, h59]; exact hl z hz
        refine ct_allowsJ (cmd := 0) (how := false) hj1 (envC_cs (u := n) hl1 h5 (by rw [h6]; exact hjt.2.2.2.2.2.2 _ (by omega))) (by omega) (fun t2 ht2 => ⟨in_zI (by omega) (by omega), ?_⟩)
        have e1 : po_let p f (en (cs S r c (vv j)) n r) S.2.1 0 false = reads p f (cs S r c (vv j)) n r := rfl
        have ht12 : fr wA t t2 := ht1.trans (ht2.mono wH_wA)
        have ht2' : fr wS s t2 := ht.trans (ht12.mono wA_wS)
        have e63 : st_g t2 63 n = bo (reads p f S n) S.2.2.1 := by rw [ht2'.g rfl]; exact h63 n (by omega)
        have hq2 := mQs_fr ht12 hqt
        rw [e1, zI_nat (show n < 2147483648 by omega), e63]
        refine ct_bit (by omega) ?_
        have e2 : tb (bo (reads p f S n) S.2.2.1) r = reads p f S n r := by rw [tb_bo (by omega) (by omega)]; simp [hr]
        rw [e2, zI_add1]
        have h59b : ∀ z, st_g t2 59 z = st_g s 59 z := fun z => by rw [ht2.g (wH_ne (by omega) (by omega)), h59a, h59]
        have e3 : ∀ v, st_g (st_p t2 64 n v) 62 3 = st_g t2 62 3 := fun v => g_p_a (by omega)
        rw [hq2.2.2.1 n (by omega), e3, e3, hq2.2.2.2]
        have turned : tq p f S r c j n = true → at_X1_noteTurns_8 X (d + 4) K E (st_p (st_p t2 64 n ((lkn p f S r c j q.2.2 n).1 n ||| s1 r)) 62 3 ((lkn p f S r c j q.2.2 n).2 ||| 0)) (zI r) (zI (n + 1)) := fun h => by
          refine ih (n + 1) _ (by omega) (by omega) ((ht2'.p rfl).p rfl) (fun z => by rw [g_p_a (by omega), g_p_a (by omega)]; exact h59b z) ⟨?_, ?_, fun u hu => ?_, ?_⟩
          · rw [g_p_k (by omega), g_p_a (by omega)]; exact hq2.1
          · rw [g_p_k (by omega), g_p_a (by omega)]; exact hq2.2.1
          · rw [g_p_a (by omega), g_p]
            show _ = (if u < n + 1 ∧ tq p f S r c j u = true then q.2.2.1 u ||| s1 r else q.2.2.1 u)
            by_cases hun : u = n
            · subst hun
              have : u < u + 1 := by omega
              simp [h, lkn]
            · rw [if_neg (fun z => hun z.2), hq2.2.2.1 u hu]
              show (if u < n ∧ tq p f S r c j u = true then q.2.2.1 u ||| s1 r else q.2.2.1 u) = _
              have : (u < n + 1) ↔ u < n := by omega
              simp only [this]
          · rw [g_p_eq, Int32.or_zero]
            show q.2.2.2 ||| bo (fun u => !(tq p f S r c j u)) n = q.2.2.2 ||| bo (fun u => !(tq p f S r c j u)) (n + 1)
            rw [bo_succ, h]; simp
        have unturned : tq p f S r c j n = false → at_X1_noteTurns_8 X (d + 4) K E (st_p (st_p t2 64 n ((lkn p f S r c j q.2.2 n).1 n ||| 0)) 62 3 ((lkn p f S r c j q.2.2 n).2 ||| ((1 : Int32) <<< (zI n &&& 31)))) (zI r) (zI (n + 1)) := fun h => by
          refine ih (n + 1) _ (by omega) (by omega) ((ht2'.p rfl).p rfl) (fun z => by rw [g_p_a (by omega), g_p_a (by omega)]; exact h59b z) ⟨?_, ?_, fun u hu => ?_, ?_⟩
          · rw [g_p_k (by omega), g_p_a (by omega)]; exact hq2.1
          · rw [g_p_k (by omega), g_p_a (by omega)]; exact hq2.2.1
          · rw [g_p_a (by omega), g_p]
            show _ = (if u < n + 1 ∧ tq p f S r c j u = true then q.2.2.1 u ||| s1 r else q.2.2.1 u)
            by_cases hun : u = n
            · subst hun
              simp [h, lkn]
            · rw [if_neg (fun z => hun z.2), hq2.2.2.1 u hu]
              show (if u < n ∧ tq p f S r c j u = true then q.2.2.1 u ||| s1 r else q.2.2.1 u) = _
              have : (u < n + 1) ↔ u < n := by omega
              simp only [this]
          · rw [g_p_eq]
            show q.2.2.2 ||| bo (fun u => !(tq p f S r c j u)) n ||| ((1 : Int32) <<< (zI n &&& 31)) = q.2.2.2 ||| bo (fun u => !(tq p f S r c j u)) (n + 1)
            rw [bo_succ, h, Int32.or_assoc]; simp
        have e10 : ((1 : Int32) = 0) = False := by simp
        have e00 : ((0 : Int32) = 0) = True := by simp
        have hin6 := in_zI (show n < 6 by omega) (show 6 < 2147483648 by omega)
        unfold tq at turned unturned
        cases h1 : reads p f (cs S r c (vv j)) n r <;> cases h2 : reads p f S n r <;> rw [h1, h2] at turned unturned
        · have := unturned rfl
          refine ⟨fun _ => ⟨fun _ => ⟨hin6, fun _ => ⟨hin6, fun _ => this, fun z => absurd rfl z⟩, fun z => absurd rfl z⟩, fun z => absurd rfl z⟩, fun z => absurd (fun w => absurd w (by decide)) z⟩
        · have := turned rfl
          refine ⟨fun z => absurd rfl z, fun _ => ⟨fun z => absurd z (by decide), fun _ => ⟨hin6, fun z => absurd z (by decide), fun _ => ⟨hin6, fun z => absurd z (by decide), fun _ => this⟩⟩⟩⟩
        · have := turned rfl
          refine ⟨fun _ => ⟨fun z => absurd z (by decide), fun _ => ⟨hin6, fun z => absurd z (by decide), fun _ => ⟨hin6, fun z => absurd z (by decide), fun _ => this⟩⟩⟩, fun z => absurd (fun w => absurd w (by decide)) z⟩
        · have := unturned rfl
          refine ⟨fun z => absurd rfl z, fun _ => ⟨fun _ => ⟨hin6, fun _ => ⟨hin6, fun _ => this, fun z => absurd rfl z⟩, fun z => absurd rfl z⟩, fun z => absurd rfl z⟩⟩
  refine en_X1_noteTurns ⟨fun _ => loop R 0 s (by omega) (by omega) fr.refl (fun _ => rfl) ?_, fun z => absurd rfl z⟩
  have e0 : lkn p f S r c j q.2.2 0 = q.2.2 := by
    unfold lkn
    simp [bo]
  rw [e0]; exact hq
/-- what the loops of the search keep -/
def cK (s t : bi_St) (C : Nat) (S : Sta) (r aim u : Nat) (q : Qs) : Prop := fr wS s t ∧ mQs t q ∧ (aim = 0 → st_g t 57 5 = zI u ∧ st_g t 57 6 = clo S.1 (s1 u))
theorem ct_tryNumbers {X : bi_X} {d : Nat} {K : bi_St → Prop} {E : Nat → bi_St → Prop} {s s0 : bi_St} {b a C R p r m aim u : Nat} {f : Nat → Pol} {S : Sta} {W : Wt} {q : Qs} {g : Nat → Nat → Nat → Bool} (hj : JC s0 b a C R p f S) (hw : WC s0 a m W) (hcol : st_g s0 b 0 = zI C) (hr : r < S.2.2.1) (ha : aim ≤ 2) (h63 : aim = 2 → ∀ u, u < R → st_g s0 63 u = bo (reads p f S u) S.2.2.1)
    (hs : cK s0 s C S r aim u q) (hl : ∀ c, c < C → st_g s 59 c = S.2.2.2 r c) (hg : ∀ c j, c < C → j < 19 → g r c j = (!(decide (S.2.2.2 r c = vv j)) && ft p f S m W aim u r c j))
    (k : ∀ t, cK s0 t C S r aim u (sr2 R p f S aim g r C q) → K t) : cV X (d + 5) 19 [.ref 62, .int (zI r), .int (zI aim)] s K E := by
  have hC := hj.1.2.1
  have hn16 := hj.2.2.2.1.2.1
  have hS := hj.2.2.2.1.1
  have hb : b ≤ 19 := by rcases hj.1.1 with z | z <;> omega
  have inner : ∀ c, c < C → (∀ t, cK s0 t C S r aim u (sr2 R p f S aim g r (c + 1) q) → (∀ c, c < C → st_g t 59 c = S.2.2.2 r c) → at_X1_tryNumbers_2 X (d + 5) K E t (zI r) (zI aim) (zI (c + 1))) →
      ∀ e n (t : bi_St), e = 19 - n → n ≤ 19 → cK s0 t C S r aim u (sr1 R p f S aim g r c n (sr2 R p f S aim g r c q)) → (∀ z, z < C → z ≠ c → st_g t 59 z = S.2.2.2 r z) → at_X1_tryNumbers_36 X (d + 5) K E t (zI r) (zI aim) (zI c) (S.2.2.2 r c) (vv n) := by
    intro c hc hk e
    induction e with
    | zero =>
      intro n t he hn ht hl
      have : n = 19 := by omega
      subst this
      refine go_X1_tryNumbers_36 ⟨fun _ => ⟨in_zI (by omega) (by omega), ?_⟩, fun z => absurd ((vv_19 (by omega)).1.mpr rfl) z⟩
      rw [zI_nat (by omega), zI_add1]
      obtain ⟨t1, t2, t3⟩ := ht
      refine hk _ ⟨t1.p rfl, ?_, fun z => ?_⟩ (fun z hz => ?_)
      · exact ⟨by rw [g_p_a (by omega)]; exact t2.1, by rw [g_p_a (by omega)]; exact t2.2.1, fun u hu => by rw [g_p_a (by omega)]; exact t2.2.2.1 u hu, by rw [g_p_a (by omega)]; exact t2.2.2.2⟩
      · rw [g_p_a (by omega), g_p_a (by omega)]; exact t3 z
      · rw [g_p]
        by_cases hzc : z = c
        · simp [hzc]
        · simp [hzc]; exact hl z hz hzc
    | succ e ih =>
      intro n t he hn ht hl
      obtain ⟨t1, t2, t3⟩ := ht
      refine go_X1_tryNumbers_36 ⟨fun z => ?_, fun _ => ⟨in_zI (by omega) (by omega), ?_⟩⟩
      · have := (vv_19 (by omega)).1.mp z; omega
      · rw [zI_nat (by omega), vv_add1]
        have ht' : fr wS s0 (st_p t 59 c (vv n)) := t1.p rfl
        have hq' : mQs (st_p t 59 c (vv n)) (sr1 R p f S aim g r c n (sr2 R p f S aim g r c q)) := ⟨by rw [g_p_a (by omega)]; exact t2.1, by rw [g_p_a (by omega)]; exact t2.2.1, fun u hu => by rw [g_p_a (by omega)]; exact t2.2.2.1 u hu, by rw [g_p_a (by omega)]; exact t2.2.2.2⟩
        have h0' : aim = 0 → st_g (st_p t 59 c (vv n)) 57 5 = zI u ∧ st_g (st_p t 59 c (vv n)) 57 6 = clo S.1 (s1 u) := fun z => by
          rw [g_p_a (by omega), g_p_a (by omega)]; exact t3 z
        have hoth : ∀ z, z < C → z ≠ c → st_g (st_p t 59 c (vv n)) 59 z = S.2.2.2 r z := fun z hz hzc => by rw [g_p_k hzc]; exact hl z hz hzc
        have hln : lnC (st_p t 59 c (vv n)) C S r c (vv n) := fun z hz => by
          rw [va_upe, g_p]
          by_cases hzc : z = c
          · simp [hzc]
          · simp [hzc]; exact hl z hz hzc
        have hgn := hg c n hc (by omega)
        refine ⟨fun heq => ?_, fun hne => ?_⟩
        · refine ih (n + 1) _ (by omega) (by omega) ⟨ht', ?_, h0'⟩ hoth
          rw [sr1]
          have : g r c n = false := by rw [hgn]; simp [heq]
          rw [this]; exact hq'
        · have hjt := JC_wS ht' hj
          have hwt := WC_wS hS ht' hw
          have hne' : ¬ S.2.2.2 r c = vv n := fun z => hne z.symm
          refine ct_fits (u := u) (c := c) (j := n) hjt hwt (by omega) ha hln h0' (fun t4 ht4 h59 h04 => ?_)
          have hoth4 : ∀ z, z < C → z ≠ c → st_g t4 59 z = S.2.2.2 r z := fun z hz hzc => by rw [h59]; exact hoth z hz hzc
          have hgft : g r c n = ft p f S m W aim u r c n := by rw [hgn]; simp [hne']
          have ht04 := ht'.trans (ht4.mono wA_wS)
          have hq4 := mQs_fr ht4 hq'
          rw [b2i_ne0, ← hgft]
          refine ⟨fun h => ?_, fun h => ?_⟩
          · refine ih (n + 1) _ (by omega) (by omega) ⟨ht04, ?_, h04⟩ hoth4
            rw [sr1, h]; exact hq4
          · have h : g r c n = true := by simpa using h
            refine ct_noteFound hq4 (fun t5 ht5 hq5 => ?_)
            have w5 : fr wS t4 t5 := ht5.mono (fun a k z => by
              simp only [Bool.and_eq_true, Nat.ble_eq, Nat.beq_eq] at z
              unfold wS
              have h1 : Nat.beq a 62 = true := by rw [Nat.beq_eq]; exact z.1
              have h2 : Nat.ble 3 k = true := Nat.ble_eq_true_of_le (by omega)
              rw [h1, h2]; simp)
            have ht05 := ht04.trans w5
            have h595 : ∀ z, st_g t5 59 z = st_g t4 59 z := fun z => ht5.g rfl
            have h575 : ∀ z, st_g t5 57 z = st_g t4 57 z := fun z => ht5.g rfl
            by_cases h2 : aim = 2
            · subst h2
              have hj5 := JC_wS ht05 hj
              refine ct_noteTurns (c := c) (j := n) hj5 hr (fun z hz => by rw [h595, h59]; exact hln z hz) (fun u hu => by rw [ht05.g rfl]; exact h63 rfl u hu) hq5 (fun t6 ht6 h59d hq6 => ?_)
              refine ih (n + 1) t6 (by omega) (by omega) ⟨ht05.trans ht6, ?_, fun z => absurd z (by decide)⟩ (fun z hz hzc => by rw [h59d, h595]; exact hoth4 z hz hzc)
              rw [sr1, h]
              exact hq6
            · refine en_X1_noteTurns ⟨fun z => absurd ((zI_eq (b := 2) (by omega) (by omega)).mp z) h2, fun _ => ?_⟩
              refine ih (n + 1) t5 (by omega) (by omega) ⟨ht05, ?_, fun z => by rw [h575, h575]; exact h04 z⟩ (fun z hz hzc => by rw [h595]; exact hoth4 z hz hzc)
              rw [sr1, h]
              simp only [if_true, stp, if_neg h2]
              exact hq5
  have outer : ∀ e n (t : bi_St), e = C - n → n ≤ C → cK s0 t C S r aim u (sr2 R p f S aim g r n q) → (∀ c, c < C → st_g t 59 c = S.2.2.2 r c) → at_X1_tryNumbers_2 X (d + 5) K E t (zI r) (zI aim) (zI n) := by
    intro e
    induction e with
    | zero =>
      intro n t he hn ht hl
      have : n = C := by omega
      subst this
      have hjt := JC_wS ht.1 hj
      have hct : st_g t b 0 = zI n := by rw [ht.1.g (wS_ne (by omega) (by omega) (by omega) (by omega) (by omega))]; exact hcol
      refine go_X1_tryNumbers_2 ⟨by rw [hjt.2.1]; exact hjt.1.1, fun _ => k t ht, fun z => absurd ?_ z⟩
      rw [hjt.2.1, hct]; exact (zI_le (by omega) (by omega)).mpr (Nat.le_refl _)
    | succ e ih =>
      intro n t he hn ht hl
      have hjt := JC_wS ht.1 hj
      have hct : st_g t b 0 = zI C := by rw [ht.1.g (wS_ne (by omega) (by omega) (by omega) (by omega) (by omega))]; exact hcol
      refine go_X1_tryNumbers_2 ⟨by rw [hjt.2.1]; exact hjt.1.1, fun z => ?_, fun _ => ⟨fun z => ?_, fun _ => ⟨in_zI (by omega) (by omega), ?_⟩⟩⟩
      · rw [hjt.2.1, hct, zI_le (by omega) (by omega)] at z; omega
      · have := (zI_le (a := 4) (by omega) (by omega)).mp z; omega
      · rw [zI_nat (by omega), hl n (by omega)]
        have := inner n (by omega) (fun t2 ht2 hl2 => ih (n + 1) t2 (by omega) (by omega) ht2 hl2) 19 0 t (by omega) (by omega) ht (fun z hz _ => hl z hz)
        rw [vv_0] at this
        exact this
  exact en_X1_tryNumbers (outer C 0 s (by omega) (by omega) hs hl)
end SEARCH
