/-! ===== policies: which are of a user, which hold, what they let ===== -/
section POL
abbrev Lp : Type := List (Nat × Nat)
abbrev Pol : Type := Bool × Int32 × Nat × Option Lp × Option Lp
def anyB (g : Nat → Bool) : Nat → Bool
  | 0 => false
  | n + 1 => anyB g n || g n
def allB (g : Nat → Bool) : Nat → Bool
  | 0 => true
  | n + 1 => allB g n && g n
theorem anyB_iff {g : Nat → Bool} {n : Nat} : anyB g n = true ↔ ∃ i, i < n ∧ g i = true := by
  induction n with
  | zero => simp [anyB]
  | succ n ih =>
    simp only [anyB, Bool.or_eq_true, ih]
    constructor
    · rintro (⟨i, h1, h2⟩ | h)
      · exact ⟨i, by omega, h2⟩
      · exact ⟨n, by omega, h⟩
    · rintro ⟨i, h1, h2⟩
      by_cases h : i = n
      · subst h; exact Or.inr h2
      · exact Or.inl ⟨i, by omega, h2⟩
theorem allB_iff {g : Nat → Bool} {n : Nat} : allB g n = true ↔ ∀ i, i < n → g i = true := by
  induction n with
  | zero => simp [allB]
  | succ n ih =>
    simp only [allB, Bool.and_eq_true, ih]
    constructor
    · rintro ⟨h1, h2⟩ i hi
      by_cases h : i = n
      · subst h; exact h2
      · exact h1 i (by omega)
    · intro h; exact ⟨fun i hi => h i (by omega), h n (by omega)⟩
theorem anyB_congr {g h : Nat → Bool} {n : Nat} (e : ∀ i, i < n → g i = h i) : anyB g n = anyB h n := by
  rw [Bool.eq_iff_iff, anyB_iff, anyB_iff]
  exact ⟨fun ⟨i, h1, h2⟩ => ⟨i, h1, by rw [← e i h1]; exact h2⟩, fun ⟨i, h1, h2⟩ => ⟨i, h1, by rw [e i h1]; exact h2⟩⟩
theorem allB_congr {g h : Nat → Bool} {n : Nat} (e : ∀ i, i < n → g i = h i) : allB g n = allB h n := by
  rw [Bool.eq_iff_iff, allB_iff, allB_iff]
  exact ⟨fun k i h1 => by rw [← e i h1]; exact k i h1, fun k i h1 => by rw [e i h1]; exact k i h1⟩
def po_of (f : Nat → Pol) (mine on : Int32) (cmd i : Nat) : Bool := tb on i && ((decide ((f i).2.1 = -1) || tb mine (f i).2.1.toNatClampNeg) && (decide ((f i).2.2.1 = cmd) || decide ((f i).2.2.1 = 4)))
def po_r (f : Nat → Pol) (how : Bool) (i : Nat) : Option Lp := if how && (f i).2.2.2.2.isSome then (f i).2.2.2.2 else (f i).2.2.2.1
def po_h (f : Nat → Pol) (e : ev_E) (how : Bool) (i : Nat) : Bool := ev_ok (evo e (po_r f how i))
/-- whether of the policies x, those h hold, the user is let -/
def po_lt (p : Nat) (f : Nat → Pol) (x h : Nat → Bool) : Bool := anyB (fun i => x i && (!(f i).1 && h i)) p && allB (fun i => !(x i) || (!(f i).1 || h i)) p
def po_let (p : Nat) (f : Nat → Pol) (e : ev_E) (on : Int32) (cmd : Nat) (how : Bool) : Bool := po_lt p f (po_of f e.2.2 on cmd) (po_h f e how)
/-- the class's book b -/
def BC (s : bi_St) (b C p : Nat) (f : Nat → Pol) : Prop := st_isB b ∧ C ≤ 4 ∧ p ≤ 8 ∧ st_g s b 2 = zI p ∧ ∀ i, i < p → tb (st_g s b 3) i = (f i).1 ∧ st_g s (b + 1) i = (f i).2.1 ∧ st_g s (b + 2) i = zI (f i).2.2.1 ∧ (f i).2.2.1 ≤ 4 ∧ ((f i).2.1 = -1 ∨ ∃ r, r < 6 ∧ (f i).2.1 = zI r) ∧ rlo s (b + 8) C (st_g s (b + 3) i) (f i).2.2.2.1 ∧ rlo s (b + 8) C (st_g s (b + 4) i) (f i).2.2.2.2
/-- the reference's book -/
def BR (s : bi_St) (C p : Nat) (f : Nat → Pol) : Prop := C ≤ 4 ∧ p ≤ 8 ∧ st_g s 77 29 = zI p ∧ ∀ i, i < p → st_g s 83 (7 * i) = b2i (f i).1 ∧ st_g s 83 (7 * i + 1) = (f i).2.1 ∧ st_g s 83 (7 * i + 2) = zI (f i).2.2.1 ∧ (f i).2.2.1 ≤ 4 ∧ ((f i).2.1 = -1 ∨ ∃ r, r < 6 ∧ (f i).2.1 = zI r) ∧ rco s 87 C (st_g s 83 (7 * i + 3)) (f i).2.2.2.1 ∧ rco s 87 C (st_g s 83 (7 * i + 4)) (f i).2.2.2.2
theorem rl_fr {s t : bi_St} {b C n : Nat} {P : Lp} (h : ∀ a k, b ≤ a → a ≤ b + 3 → st_g t a k = st_g s a k) (hr : rl s b C n P) : rl t b C n P := by
  obtain ⟨lo, sz, e1, e2, e3, e4, e5, e6, e7, e8⟩ := hr
  refine ⟨lo, sz, by rw [h b 5 (by omega) (by omega)]; exact e1, e2, e3, ?_, by rw [h (b + 2) n (by omega) (by omega)]; exact e5, e6, fun k hk => by rw [h (b + 1) _ (by omega) (by omega)]; exact e7 k hk, e8⟩
  by_cases hn : n = 0
  · rw [if_pos hn] at e4 ⊢; exact e4
  · rw [if_neg hn] at e4 ⊢; rw [h (b + 2) _ (by omega) (by omega)]; exact e4
theorem rlo_fr {s t : bi_St} {b C : Nat} {r : Int32} {P : Option Lp} (h : ∀ a k, b ≤ a → a ≤ b + 3 → st_g t a k = st_g s a k) (hr : rlo s b C r P) : rlo t b C r P := by
  cases P with
  | none => exact hr
  | some P => obtain ⟨n, h1, h2⟩ := hr; exact ⟨n, h1, rl_fr h h2⟩
theorem rco_fr {s t : bi_St} {a C : Nat} {r : Int32} {P : Option Lp} (h : ∀ k, st_g t a k = st_g s a k) (hr : rco s a C r P) : rco t a C r P := by
  cases P with
  | none => exact hr
  | some P => obtain ⟨n, h1, h2, h3, h4⟩ := hr; exact ⟨n, h1, h2, rc_fr h _ _ h3, h4⟩
theorem BC_fr {s t : bi_St} {b C p : Nat} {f : Nat → Pol} (h : ∀ a k, b ≤ a → a ≤ b + 11 → st_g t a k = st_g s a k) (hb : BC s b C p f) : BC t b C p f := by
  obtain ⟨h1, h2, h3, h4, h5⟩ := hb
  refine ⟨h1, h2, h3, by rw [h b 2 (by omega) (by omega)]; exact h4, fun i hi => ?_⟩
  obtain ⟨a1, a2, a3, a4, a5, a6, a7⟩ := h5 i hi
  rw [h b 3 (by omega) (by omega), h (b + 1) i (by omega) (by omega), h (b + 2) i (by omega) (by omega), h (b + 3) i (by omega) (by omega), h (b + 4) i (by omega) (by omega)]
  exact ⟨a1, a2, a3, a4, a5, rlo_fr (fun a k x y => h a k (by omega) (by omega)) a6, rlo_fr (fun a k x y => h a k (by omega) (by omega)) a7⟩
theorem BR_fr {s t : bi_St} {C p : Nat} {f : Nat → Pol} (h29 : st_g t 77 29 = st_g s 77 29) (h83 : ∀ k, st_g t 83 k = st_g s 83 k) (h87 : ∀ k, st_g t 87 k = st_g s 87 k) (hb : BR s C p f) : BR t C p f := by
  obtain ⟨h2, h3, h4, h5⟩ := hb
  refine ⟨h2, h3, by rw [h29]; exact h4, fun i hi => ?_⟩
  obtain ⟨a1, a2, a3, a4, a5, a6, a7⟩ := h5 i hi
  simp only [h83]
  exact ⟨a1, a2, a3, a4, a5, rco_fr h87 a6, rco_fr h87 a7⟩
def envC (s : bi_St) (C : Nat) (e : ev_E) : Prop := (∀ c, c < C → st_g s 59 c = e.1 c) ∧ st_g s 57 5 = e.2.1 ∧ st_g s 57 6 = e.2.2
theorem envC_fr {s t : bi_St} {C : Nat} {e : ev_E} (h : fr wH s t) (he : envC s C e) : envC t C e := ⟨fun c hc => by rw [h.g (wH_ne (by omega) (by omega))]; exact he.1 c hc, by rw [h.g rfl]; exact he.2.1, by rw [h.g rfl]; exact he.2.2⟩
theorem BC_wH {s t : bi_St} {b C p : Nat} {f : Nat → Pol} (h : fr wH s t) (hb : BC s b C p f) : BC t b C p f := BC_fr (fun a k h1 h2 => h.g (by rcases hb.1 with z | z <;> exact wH_ne (by omega) (by omega))) hb
theorem bo_succ {f : Nat → Bool} {n : Nat} : bo f (n + 1) = if f n then bo f n ||| ((1 : Int32) <<< (zI n &&& 31)) else bo f n := rfl
theorem ct_bit {X : bi_X} {d : Nat} {K : Int32 → bi_St → Prop} {E : Nat → bi_St → Prop} {s : bi_St} {x : Int32} {p : Nat} (hp : p < 32) (k : K (b2i (tb x p)) s) : cI X d 160 [.int x, .int (zI p)] s K E := en_X11_bit (by rw [tb_b2i hp]; exact k)
theorem ct_applyingL {X : bi_X} {d : Nat} {K : Int32 → bi_St → Prop} {E : Nat → bi_St → Prop} {s : bi_St} {b C p cmd : Nat} {f : Nat → Pol} {mine on : Int32} (hB : BC s b C p f) (hj : st_gp s 7 = b) (hm : st_g s 57 6 = mine) (hcmd : cmd ≤ 4) (k : K (bo (po_of f mine on cmd) p) s) :
    ∀ m i, m = p - i → i ≤ p → at_X2_applying_5 X (d + 1) K E s on (zI cmd) (bo (po_of f mine on cmd) i) (zI i) := by
  obtain ⟨hb, hC, hp8, hp, hf⟩ := hB
  intro m
  induction m with
  | zero =>
    intro i hm0 hi
    have : i = p := by omega
    subst this
    refine go_X2_applying_5 ⟨by rw [hj]; exact hb, fun _ => k, fun hc => ?_⟩
    rw [hj, hp] at hc
    exact absurd ((zI_le (by omega) (by omega)).mpr (Nat.le_refl i)) hc
  | succ m ih =>
    intro i hm0 hi
    have hip : i < p := by omega
    have ihn := ih (i + 1) (by omega) (by omega)
    obtain ⟨a1, a2, a3, a4, a5, -, -⟩ := hf i hip
    have yes : po_of f mine on cmd i = true → at_X2_applying_94 X (d + 1) K E s on (zI cmd) (bo (po_of f mine on cmd) i) (zI i) := fun h => by
      refine go_X2_applying_94 (go_X2_applying_101 ?_)
      rw [zI_add1]
      rw [bo_succ, if_pos h] at ihn
      exact ihn
    have no : po_of f mine on cmd i = false → at_X2_applying_101 X (d + 1) K E s on (zI cmd) (bo (po_of f mine on cmd) i) (zI i) := fun h => by
      refine go_X2_applying_101 ?_
      rw [zI_add1]
      rw [bo_succ, h] at ihn
      exact ihn
    have c60 : (decide ((f i).2.1 = -1) || tb mine (f i).2.1.toNatClampNeg) = true → at_X2_applying_60 X (d + 1) K E s on (zI cmd) (bo (po_of f mine on cmd) i) (zI i) (zI (f i).2.2.1) := by
      intro hmine
      refine go_X2_applying_60 (ct_bit (by omega) ?_)
      refine ⟨fun h => no ?_, fun h => ⟨fun z => absurd z (by decide), fun _ => ⟨fun h2 => yes ?_, fun h2 => ⟨fun h3 => no ?_, fun h3 => yes ?_⟩⟩⟩⟩
      · rw [b2i_eq1] at h
        simp [po_of, h]
      · have h := Decidable.of_not_not h
        rw [b2i_eq1] at h
        rw [zI_eq (by omega) (by omega)] at h2
        simp only [po_of, h, hmine, h2]; simp
      · rw [zI_eq (by omega) (by omega)] at h2
        have h3 : ¬ (f i).2.2.1 = 4 := fun z => h3 (by rw [z]; rfl)
        simp [po_of, h2, h3]
      · have h := Decidable.of_not_not h
        rw [b2i_eq1] at h
        have h3 : (f i).2.2.1 = 4 := (zI_eq (b := 4) (by omega) (by omega)).mp (Decidable.of_not_not h3)
        simp only [po_of, h, hmine, h3]; simp
    refine go_X2_applying_5 ⟨by rw [hj]; exact hb, fun hc => ?_, fun _ => ⟨by rw [hj]; exact hb, in_zI (by omega) (by omega), by rw [hj]; exact hb, in_zI (by omega) (by omega), ?_⟩⟩
    · rw [hj, hp, zI_le (by omega) (by omega)] at hc; omega
    · rw [hj, zI_nat (show i < 2147483648 by omega), a2, a3]
      refine ⟨fun h => c60 (by simp [h]), fun h => ?_⟩
      rcases a5 with a5 | ⟨r, a5, a6⟩
      · exact absurd a5 h
      · rw [a6, hm]
        have h1 : decide ((f i).2.1 = -1) = false := by simp [h]
        refine ct_bit (by omega) ⟨fun hb1 => ?_, fun hb1 => ?_⟩
        · rw [b2i_eq1] at hb1
          have : po_of f mine on cmd i = false := by
            have : tb mine (f i).2.1.toNatClampNeg = false := by rw [a6, zI_nat (by omega)]; simpa using hb1
            simp [po_of, h1, this, h]
          refine ct_bit (by omega) ⟨fun _ => no this, fun _ => ⟨fun _ => no this, fun z => absurd rfl z⟩⟩
        · have hb1 := Decidable.of_not_not hb1
          rw [b2i_eq1] at hb1
          exact c60 (by rw [a6, zI_nat (by omega)]; simp [hb1])
theorem ct_applying {X : bi_X} {d : Nat} {K : Int32 → bi_St → Prop} {E : Nat → bi_St → Prop} {s : bi_St} {b C p cmd : Nat} {f : Nat → Pol} {mine on : Int32} (hB : BC s b C p f) (hj : st_gp s 7 = b) (hm : st_g s 57 6 = mine) (hcmd : cmd ≤ 4) (k : K (bo (po_of f mine on cmd) p) s) :
    cI X (d + 1) 28 [.ref 57, .int on, .int (zI cmd)] s K E := en_X2_applying (ct_applyingL hB hj hm hcmd k p 0 (by omega) (by omega))
theorem ct_holdingL {X : bi_X} {d : Nat} {K : Int32 → bi_St → Prop} {E : Nat → bi_St → Prop} {b C p : Nat} {f : Nat → Pol} {e : ev_E} {x : Int32} {how : Bool} :
    ∀ m i (s : bi_St), m = p - i → i ≤ p → BC s b C p f → st_gp s 7 = b → envC s C e → (∀ t, fr wH s t → K (bo (fun i => tb x i && po_h f e how i) p) t) → at_X2_holding_5 X (d + 2) K E s x (b2i how) (bo (fun i => tb x i && po_h f e how i) i) (zI i) := by
  intro m
  induction m with
  | zero =>
    intro i s hm0 hi hB hj he k
    obtain ⟨hb, hC, hp8, hp, hf⟩ := hB
    have : i = p := by omega
    subst this
    refine go_X2_holding_5 ⟨by rw [hj]; exact hb, fun _ => k s fr.refl, fun hc => ?_⟩
    rw [hj, hp] at hc
    exact absurd ((zI_le (by omega) (by omega)).mpr (Nat.le_refl i)) hc
  | succ m ih =>
    intro i s hm0 hi hB hj he k
    have hB' := hB
    obtain ⟨hb, hC, hp8, hp, hf⟩ := hB'
    have hip : i < p := by omega
    obtain ⟨a1, a2, a3, a4, a5, a6, a7⟩ := hf i hip
    have go : ∀ t v, fr wH s t → v = bo (fun i => tb x i && po_h f e how i) (i + 1) → at_X2_holding_105 X (d + 2) K E t x (b2i how) v (zI i) := fun t v ht hv => by
      refine go_X2_holding_105 ?_
      rw [zI_add1, hv]
      exact ih (i + 1) t (by omega) (by omega) (BC_wH ht hB) (by rw [ht.gp]; exact hj) (envC_fr ht he) (fun u hu => k u (ht.trans hu))
    have c1 : ∀ r, rlo s (b + 8) C r (po_r f how i) → cI X (d + 1) 160 [.int x, .int (zI i)] s (fun r1 s1 => (¬ r1 = 1 → at_X2_holding_105 X (d + 2) K E s1 x (b2i how) (bo (fun i => tb x i && po_h f e how i) i) (zI i)) ∧ (¬ ¬ r1 = 1 → st_isB (st_gp s1 7) ∧ cI X (d + 1) 34 [.ref 57, .ref (st_gp s1 7 + 8), .int r] s1 (fun r2 s2 => (r2 = 0 → at_X2_holding_105 X (d + 2) K E s2 x (b2i how) (bo (fun i => tb x i && po_h f e how i) i) (zI i)) ∧ (¬ r2 = 0 → at_X2_holding_105 X (d + 2) K E s2 x (b2i how) (bo (fun i => tb x i && po_h f e how i) i ||| ((1 : Int32) <<< (zI i &&& 31))) (zI i))) (fun _ _ => False))) (fun _ _ => False) := by
      intro r hr
      refine ct_bit (by omega) ⟨fun h => go s _ fr.refl ?_, fun h => ⟨by rw [hj]; exact hb, ?_⟩⟩
      · rw [b2i_eq1] at h; rw [bo_succ]; simp [h]
      · have h := Decidable.of_not_not h
        rw [b2i_eq1] at h
        rw [hj]
        refine ct_holds (st_isR_B hb) hC hr he.1 he.2.1 he.2.2 (fun t ht _ _ _ => ⟨fun h2 => go t _ ht ?_, fun h2 => go t _ ht ?_⟩)
        · rw [b2i_ne0] at h2
          have h2 : po_h f e how i = false := h2
          rw [bo_succ]; simp [h2]
        · rw [b2i_ne0] at h2
          have h2 : po_h f e how i = true := by unfold po_h; simpa using h2
          rw [bo_succ]; simp [h, h2]
    have c60 : rlo s (b + 8) C (st_g s (b + 3) i) (po_r f how i) → at_X2_holding_60 X (d + 2) K E s x (b2i how) (bo (fun i => tb x i && po_h f e how i) i) (zI i) := by
      intro hr
      refine go_X2_holding_60 ⟨by rw [hj]; exact hb, in_zI (by omega) (by omega), ?_⟩
      rw [hj, zI_nat (by omega)]
      exact c1 _ hr
    refine go_X2_holding_5 ⟨by rw [hj]; exact hb, fun hc => ?_, fun _ => ⟨by rw [hj]; exact hb, in_zI (by omega) (by omega), ?_⟩⟩
    · rw [hj, hp, zI_le (by omega) (by omega)] at hc; omega
    · rw [hj, zI_nat (show i < 2147483648 by omega)]
      refine ⟨fun h => ⟨fun _ => c60 ?_, fun _ => ⟨fun _ => c60 ?_, fun z => absurd rfl z⟩⟩, fun h => ⟨fun h2 => c60 ?_, fun h2 => ⟨fun z => absurd z (by decide), fun _ => ⟨hb, in_zI (by omega) (by omega), c1 _ ?_⟩⟩⟩⟩
      · have : (f i).2.2.2.2 = none := by
          cases hq : (f i).2.2.2.2 with
          | none => rfl
          | some P => rw [hq] at a7; obtain ⟨n, h1, h2⟩ := a7; rw [h1] at h; obtain ⟨lo, sz, e1, e2, e3, _⟩ := h2; exact absurd h (zI_m1 (by have := st_rn_le (b := b + 8); omega))
        simp only [po_r, this]; simpa using a6
      · have : (f i).2.2.2.2 = none := by
          cases hq : (f i).2.2.2.2 with
          | none => rfl
          | some P => rw [hq] at a7; obtain ⟨n, h1, h2⟩ := a7; rw [h1] at h; obtain ⟨lo, sz, e1, e2, e3, _⟩ := h2; exact absurd h (zI_m1 (by have := st_rn_le (b := b + 8); omega))
        simp only [po_r, this]; simpa using a6
      · rw [b2i_ne0] at h2
        simp only [po_r, h2]; simpa using a6
      · rw [b2i_ne0] at h2
        have h2 : how = true := by simpa using h2
        have : (f i).2.2.2.2.isSome = true := by
          cases hq : (f i).2.2.2.2 with
          | none => rw [hq] at a7; exact absurd a7 h
          | some P => rfl
        simp only [po_r, h2, this]; simpa using a7
theorem ct_holding {X : bi_X} {d : Nat} {K : Int32 → bi_St → Prop} {E : Nat → bi_St → Prop} {s : bi_St} {b C p : Nat} {f : Nat → Pol} {e : ev_E} {x : Int32} {how : Bool} (hB : BC s b C p f) (hj : st_gp s 7 = b) (he : envC s C e) (k : ∀ t, fr wH s t → K (bo (fun i => tb x i && po_h f e how i) p) t) :
    cI X (d + 2) 29 [.ref 57, .int x, .int (b2i how)] s K E := en_X2_holding (ct_holdingL p 0 s (by omega) (by omega) hB hj he k)
theorem ct_lets {X : bi_X} {d : Nat} {K : Int32 → bi_St → Prop} {E : Nat → bi_St → Prop} {s : bi_St} {b C p : Nat} {f : Nat → Pol} {x h : Int32} {x' h' : Nat → Bool} (hB : BC s b C p f) (hj : st_gp s 7 = b) (hx : ∀ i, i < 32 → tb x i = (decide (i < p) && x' i)) (hh : ∀ i, i < p → x' i = true → tb h i = h' i) (k : K (b2i (po_lt p f x' h')) s) :
    cI X d 30 [.ref 57, .int x, .int h] s K E := by
  obtain ⟨hb, hC, hp8, hp, hf⟩ := hB
  have e1 : (((x &&& ((st_g s b 3) ^^^ (-1 : Int32))) &&& h) = 0) ↔ anyB (fun i => x' i && (!(f i).1 && h' i)) p = false := by
    rw [← Bool.not_eq_true, anyB_iff, tb_eq0]
    constructor
    · rintro h1 ⟨i, h2, h3⟩
      simp only [Bool.and_eq_true, Bool.not_eq_true'] at h3
      have := h1 i (by omega)
      rw [tb_and, tb_and, tb_not (by omega), hx i (by omega), (hf i h2).1, hh i h2 h3.1, h3.1, h3.2.1, h3.2.2] at this
      simp [h2] at this
    · intro h1 i hi
      rw [tb_and, tb_and, tb_not hi, hx i hi]
      by_cases h2 : i < p
      · cases h3 : x' i with
        | false => simp
        | true =>
          rw [(hf i h2).1, hh i h2 h3]
          have h4 : ¬ ((x' i && (!(f i).1 && h' i)) = true) := fun z => h1 ⟨i, h2, z⟩
          rw [h3] at h4
          simp only [h2, decide_true, Bool.true_and] at h4 ⊢
          simpa using h4
      · simp [h2]
  have e2 : (((x &&& (st_g s b 3)) &&& (h ^^^ (-1 : Int32))) = 0) ↔ allB (fun i => !(x' i) || (!(f i).1 || h' i)) p = true := by
    rw [allB_iff, tb_eq0]
    constructor
    · intro h1 i h2
      have := h1 i (by omega)
      rw [tb_and, tb_and, tb_not (by omega), hx i (by omega), (hf i h2).1] at this
      cases h3 : x' i with
      | false => simp
      | true =>
        rw [h3, hh i h2 h3] at this
        simp only [h2, decide_true, Bool.true_and, Bool.not_true, Bool.false_or] at this ⊢
        cases hfi : (f i).1 <;> cases hhi : h' i <;> simp_all
    · intro h1 i hi
      rw [tb_and, tb_and, tb_not hi, hx i hi]
      by_cases h2 : i < p
      · have := h1 i h2
        cases h3 : x' i with
        | false => simp
        | true =>
          rw [(hf i h2).1, hh i h2 h3]
          rw [h3] at this
          cases hfi : (f i).1 <;> cases hhi : h' i <;> simp_all
      · simp [h2]
  refine en_X2_lets ⟨by rw [hj]; exact hb, by rw [hj]; exact hb, ?_⟩
  rw [hj, e1, e2]
  unfold po_lt at k
  refine ⟨fun h1 => ?_, fun h1 => ⟨fun h2 => ?_, fun h2 => ?_⟩⟩
  · rw [h1] at k; exact k
  · have h2 : allB (fun i => !(x' i) || (!(f i).1 || h' i)) p = false := by simpa using h2
    rw [h2, Bool.and_false] at k; exact k
  · have h2 := Decidable.of_not_not h2
    have h1 : anyB (fun i => x' i && (!(f i).1 && h' i)) p = true := by simpa using h1
    rw [h1, h2] at k; exact k
theorem ct_allows {X : bi_X} {d : Nat} {K : Int32 → bi_St → Prop} {E : Nat → bi_St → Prop} {s : bi_St} {b C p cmd : Nat} {f : Nat → Pol} {e : ev_E} {how : Bool} (hB : BC s b C p f) (hj : st_gp s 7 = b) (hS : st_isS (st_gp s 8)) (he : envC s C e) (hcmd : cmd ≤ 4)
    (k : ∀ t, fr wH s t → K (b2i (po_let p f e (st_g s (st_gp s 8) 3) cmd how)) t) : cI X (d + 3) 31 [.ref 57, .int (zI cmd), .int (b2i how)] s K E := by
  refine en_X2_allows ⟨hS, ct_applying hB hj he.2.2 hcmd (ct_holding hB hj he (fun t ht => ct_lets (x' := po_of f e.2.2 (st_g s (st_gp s 8) 3) cmd) (h' := po_h f e how) (BC_wH ht hB) (by rw [ht.gp]; exact hj) (fun i hi => ?_) (fun i hi hx => ?_) ⟨b2i_bool _, k t ht⟩))⟩
  · have := hB.2.2.1; rw [tb_bo (by omega) hi]
  · have := hB.2.2.1; rw [tb_bo (by omega) (by omega), tb_bo (by omega) (by omega), hx]; simp [hi]
def envR (s : bi_St) (C : Nat) (e : ev_E) : Prop := (∀ c, c < C → st_g s 92 c = e.1 c) ∧ st_g s 92 4 = e.2.1 ∧ st_g s 77 43 = e.2.2
/-- what doLet() may change of the reference -/
def wD (a k : Nat) : Bool := Nat.beq a 93 || (Nat.beq a 77 && (Nat.ble 46 k && Nat.ble k 47))
theorem wD_ne {a k : Nat} (h1 : a ≠ 93) (h2 : a ≠ 77) : wD a k = false := by
  unfold wD
  rw [Bool.or_eq_false_iff, Bool.and_eq_false_iff]
  exact ⟨by rw [Bool.eq_false_iff]; intro z; exact h1 (Nat.eq_of_beq_eq_true z), Or.inl (by rw [Bool.eq_false_iff]; intro z; exact h2 (Nat.eq_of_beq_eq_true z))⟩
theorem wE_wD {s t : bi_St} (h : fr wE s t) (h4 : st_g t 77 44 = st_g s 77 44) (h5 : st_g t 77 45 = st_g s 77 45) : fr wD s t := by
  have key : ∀ a k, wD a k = false → wE a k = false ∨ (a = 77 ∧ (k = 44 ∨ k = 45)) := fun a k hw => by
    cases he : wE a k with
    | false => exact Or.inl rfl
    | true =>
      right
      rw [Bool.eq_false_iff] at hw
      unfold wE at he
      unfold wD at hw
      simp only [ne_eq, Bool.or_eq_true, Bool.and_eq_true, Nat.ble_eq, Nat.beq_eq] at he hw
      omega
  refine ⟨h.1, h.2.1, fun a k hw => ?_, fun a k hw => h.2.2.2 a k ?_⟩
  · rcases key a k hw with z | ⟨z1, z2 | z2⟩
    · exact h.2.2.1 a k z
    · rw [z1, z2]; exact h4
    · rw [z1, z2]; exact h5
  · rcases hw with hw | hw
    · rcases key a k hw with z | ⟨z1, z2⟩
      · exact Or.inl z
      · exact Or.inr (by omega)
    · exact Or.inr hw
theorem envR_fr {s t : bi_St} {C : Nat} {e : ev_E} (h : fr wD s t) (he : envR s C e) : envR t C e := ⟨fun c hc => by rw [h.g (wD_ne (by omega) (by omega))]; exact he.1 c hc, by rw [h.g (wD_ne (by omega) (by omega))]; exact he.2.1, by rw [h.g rfl]; exact he.2.2⟩
theorem BR_wD {s t : bi_St} {C p : Nat} {f : Nat → Pol} (h : fr wD s t) (hb : BR s C p f) : BR t C p f := BR_fr (h.g rfl) (fun k => h.g (wD_ne (by omega) (by omega))) (fun k => h.g (wD_ne (by omega) (by omega))) hb
theorem z7 {i n : Nat} (hi : i < 8) (hn : n < 7) : (7 : Int32) * zI i + zI n = zI (7 * i + n) := by
  have : (7 : Int32) * zI i = zI (7 * i) := zI_mul 7 i
  rw [this, zI_add]
theorem ct_isOf {X : bi_X} {d : Nat} {K : Int32 → bi_St → Prop} {E : Nat → bi_St → Prop} {s : bi_St} {C p cmd i b0 : Nat} {f : Nat → Pol} {mine : Int32} (hB : BR s C p f) (hm : st_g s 77 43 = mine) (hcmd : cmd ≤ 4) (hi : i < p) (hb0 : b0 ≤ 72) (k : K (b2i (po_of f mine (st_g s 90 (b0 + 6)) cmd i)) s) :
    cI X d 213 [.ref 77, .int (zI b0), .int (zI i), .int (zI cmd)] s K E := by
  obtain ⟨hC, hp8, hp, hf⟩ := hB
  obtain ⟨a1, a2, a3, a4, a5, -, -⟩ := hf i hi
  have e6 : zI b0 + 6 = zI (b0 + 6) := zI_add b0 6
  have e1 : (7 : Int32) * zI i + 1 = zI (7 * i + 1) := z7 (n := 1) (by omega) (by omega)
  have e2 : (7 : Int32) * zI i + 2 = zI (7 * i + 2) := z7 (n := 2) (by omega) (by omega)
  refine en_X12_isOf ?_
  rw [e6, e1, e2, zI_nat (show b0 + 6 < 2147483648 by omega), zI_nat (show 7 * i + 1 < 2147483648 by omega), zI_nat (show 7 * i + 2 < 2147483648 by omega), a2, a3]
  refine ⟨in_zI (by omega) (by omega), fun h => ⟨in_zI (by omega) (by omega), in_zI (by omega) (by omega), ?_⟩, fun h => ?_⟩
  · rw [tb_bit0 (by omega)] at h
    have h : tb (st_g s 90 (b0 + 6)) i = true := by simpa using h
    have e4 : (zI (f i).2.2.1 = 4) ↔ (f i).2.2.1 = 4 := zI_eq (b := 4) (by omega) (by omega)
    rw [e4, zI_eq (by omega) (by omega)]
    have fin : (decide ((f i).2.1 = -1) || tb mine (f i).2.1.toNatClampNeg) = true → (((f i).2.2.1 = 4) → K 1 s) ∧ (¬ ((f i).2.2.1 = 4) → ((¬ (f i).2.2.1 = cmd) → K 0 s) ∧ (¬ (¬ (f i).2.2.1 = cmd) → K 1 s)) := by
      intro hmine
      refine ⟨fun h2 => ?_, fun h2 => ⟨fun h3 => ?_, fun h3 => ?_⟩⟩
      · have : po_of f mine (st_g s 90 (b0 + 6)) cmd i = true := by simp only [po_of, h, hmine, h2]; simp
        rw [this] at k; exact k
      · have : po_of f mine (st_g s 90 (b0 + 6)) cmd i = false := by simp [po_of, h2, h3]
        rw [this] at k; exact k
      · have : po_of f mine (st_g s 90 (b0 + 6)) cmd i = true := by simp only [po_of, h, hmine, Decidable.of_not_not h3]; simp
        rw [this] at k; exact k
    refine ⟨fun h1 => fin (by simp [h1]), fun h1 => ?_⟩
    rcases a5 with a5 | ⟨r, a5, a6⟩
    · exact absurd a5 h1
    · rw [a6, hm, tb_bit1 (by omega)]
      refine ⟨fun h2 => ?_, fun h2 => fin (by rw [a6, zI_nat (by omega), Decidable.of_not_not h2]; simp)⟩
      have : po_of f mine (st_g s 90 (b0 + 6)) cmd i = false := by
        have h3 : tb mine (f i).2.1.toNatClampNeg = false := by rw [a6, zI_nat (by omega)]; simpa using h2
        simp [po_of, h1, h3]
      rw [this] at k; exact k
  · have h := Decidable.of_not_not h
    rw [tb_bit0 (by omega)] at h
    have : po_of f mine (st_g s 90 (b0 + 6)) cmd i = false := by simp [po_of, h]
    rw [this] at k; exact k
theorem ct_asksAt {X : bi_X} {d : Nat} {K : Int32 → bi_St → Prop} {E : Nat → bi_St → Prop} {s : bi_St} {C p i : Nat} {f : Nat → Pol} {how : Bool} (hB : BR s C p f) (hi : i < p) (k : ∀ v, rco s 87 C v (po_r f how i) → K v s) :
    cI X d 214 [.ref 77, .int (zI i), .int (b2i how)] s K E := by
  obtain ⟨hC, hp8, hp, hf⟩ := hB
  obtain ⟨a1, a2, a3, a4, a5, a6, a7⟩ := hf i hi
  have e1 : (7 : Int32) * zI i + 3 = zI (7 * i + 3) := z7 (n := 3) (by omega) (by omega)
  have e2 : (7 : Int32) * zI i + 4 = zI (7 * i + 4) := z7 (n := 4) (by omega) (by omega)
  refine en_X12_asksAt ?_
  rw [e1, e2, zI_nat (show 7 * i + 3 < 2147483648 by omega), zI_nat (show 7 * i + 4 < 2147483648 by omega), b2i_eq1]
  refine ⟨in_zI (by omega) (by omega), fun h => ⟨in_zI (by omega) (by omega), k _ ?_⟩, fun h => ⟨fun h2 => ⟨in_zI (by omega) (by omega), k _ ?_⟩, fun h2 => k _ ?_⟩⟩
  · have h : how = false := by simpa using h
    simp only [po_r, h]; simpa using a6
  · have : (f i).2.2.2.2 = none := by
      cases hq : (f i).2.2.2.2 with
      | none => rfl
      | some P => rw [hq] at a7; obtain ⟨n, h3, h4, _⟩ := a7; rw [h3] at h2; exact absurd h2 (zI_m1 (by omega))
    simp only [po_r, this]; simpa using a6
  · have h := Decidable.of_not_not h
    have : (f i).2.2.2.2.isSome = true := by
      cases hq : (f i).2.2.2.2 with
      | none => rw [hq] at a7; exact absurd a7 h2
      | some P => rfl
    simp only [po_r, h, this]; simpa using a7
theorem ct_doLetL {X : bi_X} {d : Nat} {K : Int32 → bi_St → Prop} {E : Nat → bi_St → Prop} {C p cmd b0 : Nat} {f : Nat → Pol} {e : ev_E} {how : Bool} {on : Int32} (hcmd : cmd ≤ 4) (hb0 : b0 ≤ 72) :
    ∀ m i (s : bi_St), m = p - i → i ≤ p → BR s C p f → envR s C e → st_g s 77 47 = 0 → st_g s 90 (b0 + 6) = on → (∀ t, fr wD s t → K (b2i (po_let p f e on cmd how)) t) →
      at_X12_doLet_14 X (d + 2) K E s (zI b0) (zI cmd) (b2i how) (b2i (anyB (fun i => po_of f e.2.2 on cmd i && (!(f i).1 && po_h f e how i)) i)) (b2i (allB (fun i => !(po_of f e.2.2 on cmd i) || (!(f i).1 || po_h f e how i)) i)) (zI i) := by
  intro m
  induction m with
  | zero =>
    intro i s hm0 hi hB he h47 hon k
    have hi : i = p := by omega
    subst hi
    have k := k s fr.refl
    refine go_X12_doLet_14 ⟨fun _ => ?_, fun hc => ?_⟩
    · unfold po_let po_lt at k
      rw [b2i_ne0, b2i_ne0]
      refine ⟨fun h => ?_, fun h => ⟨fun h2 => ?_, fun h2 => ?_⟩⟩
      · rw [h] at k; exact go_X12_doLet_143 k
      · rw [h2, Bool.and_false] at k; exact go_X12_doLet_143 k
      · have h : anyB (fun i => po_of f e.2.2 on cmd i && (!(f i).1 && po_h f e how i)) i = true := by simpa using h
        have h2 : allB (fun i => !(po_of f e.2.2 on cmd i) || (!(f i).1 || po_h f e how i)) i = true := by simpa using h2
        rw [h, h2] at k; exact k
    · rw [hB.2.2.1] at hc
      have := hB.2.1
      exact absurd ((zI_le (by omega) (by omega)).mpr (Nat.le_refl i)) hc
  | succ m ih =>
    intro i s hm0 hi hB he h47 hon k
    have hp8 := hB.2.1
    have hip : i < p := by omega
    have nx : ∀ t y z, fr wD s t → st_g t 77 47 = 0 → y = b2i (anyB (fun i => po_of f e.2.2 on cmd i && (!(f i).1 && po_h f e how i)) (i + 1)) → z = b2i (allB (fun i => !(po_of f e.2.2 on cmd i) || (!(f i).1 || po_h f e how i)) (i + 1)) → at_X12_doLet_123 X (d + 2) K E t (zI b0) (zI cmd) (b2i how) y z (zI i) := by
      intro t y z ht h47' hy hz
      subst hy hz
      refine go_X12_doLet_123 ?_
      rw [zI_add1]
      exact ih (i + 1) t (by omega) (by omega) (BR_wD ht hB) (envR_fr ht he) h47' (by rw [ht.g (wD_ne (by omega) (by omega))]; exact hon) (fun u hu => k u (ht.trans hu))
    refine go_X12_doLet_14 ⟨fun hc => ?_, fun _ => ct_isOf hB he.2.2 hcmd hip hb0 ?_⟩
    · rw [hB.2.2.1, zI_le (by omega) (by omega)] at hc; omega
    rw [hon, b2i_ne0]
    cases hof : po_of f e.2.2 on cmd i with
    | false =>
      refine ⟨fun z => absurd rfl z, fun _ => nx s _ _ fr.refl h47 ?_ ?_⟩
      · rw [anyB, hof]; simp
      · rw [allB, hof]; simp
    | true =>
      refine ⟨fun _ => ?_, fun z => absurd (by simp) z⟩
      have e7 : (7 : Int32) * zI i = zI (7 * i) := zI_mul 7 i
      -- with the policy's own word
      have c65 : ∀ t, fr wD s t → st_g t 77 47 = 0 → po_h f e how i = true → at_X12_doLet_65 X (d + 2) K E t (zI b0) (zI cmd) (b2i how) (b2i (anyB (fun i => po_of f e.2.2 on cmd i && (!(f i).1 && po_h f e how i)) i)) (b2i (allB (fun i => !(po_of f e.2.2 on cmd i) || (!(f i).1 || po_h f e how i)) i)) (zI i) := by
        intro t ht h47' hh
        obtain ⟨a1, -⟩ := (BR_wD ht hB).2.2.2 i hip
        refine go_X12_doLet_65 ?_
        rw [e7, zI_nat (by omega), a1, b2i_eq1, b2i_ne0, b2i_ne0]
        refine ⟨in_zI (by omega) (by omega), fun hr => ?_, fun hr => ?_⟩
        · have hr : (f i).1 = false := by simpa using hr
          have h116 : at_X12_doLet_116 X (d + 2) K E t (zI b0) (zI cmd) (b2i how) (b2i (allB (fun i => !(po_of f e.2.2 on cmd i) || (!(f i).1 || po_h f e how i)) i)) (zI i) := by
            refine go_X12_doLet_116 (nx t _ _ ht h47' ?_ ?_)
            · rw [anyB, hof, hr, hh]; simp [b2i]
            · rw [allB, hof, hr, hh]; simp
          exact ⟨fun _ => h116, fun _ => ⟨fun z => absurd z (by decide), fun _ => h116⟩⟩
        · have hr := Decidable.of_not_not hr
          refine ⟨fun h0 => go_X12_doLet_100 (nx t _ _ ht h47' ?_ ?_), fun h0 => ⟨fun z => absurd z (by decide), fun _ => nx t _ _ ht h47' ?_ ?_⟩⟩
          · rw [anyB, hof, hr, hh]; simp
          · rw [allB, h0]; rfl
          · rw [anyB, hof, hr, hh]; simp
          · have h0 : allB (fun i => !(po_of f e.2.2 on cmd i) || (!(f i).1 || po_h f e how i)) i = true := by simpa using h0
            rw [allB, h0, hof, hr, hh]; rfl
      refine ct_asksAt hB hip (fun v hv => ?_)
      cases hpr : po_r f how i with
      | none =>
        rw [hpr] at hv
        have hv : v = -1 := hv
        refine ⟨fun _ => c65 s fr.refl h47 (by simp [po_h, hpr, evo, ev_ok]), fun z => absurd hv z⟩
      | some P =>
        rw [hpr] at hv
        obtain ⟨n, hn, hn2, hrc, hok⟩ := hv
        subst hn
        refine ⟨fun z => absurd z (zI_m1 (by omega)), fun _ => ?_⟩
        refine ct_doesHold (tl := false) (e := e) (Or.inl rfl) hB.1 hrc hok (by rw [h47]; rfl) he.1 he.2.1 he.2.2 (fun t ht _ u4 u5 => ?_)
        have h47' : st_g t 77 47 = 0 := by rw [ht.g rfl]; exact h47
        have ht := wE_wD ht (by rw [u4]; simp) (by rw [u5]; simp)
        have hph : po_h f e how i = ev_ok (ev e P) := by simp [po_h, hpr, evo]
        rw [b2i_ne0, ← hph]
        refine ⟨fun hh => ?_, fun hh => c65 t ht h47' (by simpa using hh)⟩
        obtain ⟨a1, -⟩ := (BR_wD ht hB).2.2.2 i hip
        rw [e7, zI_nat (by omega), a1, b2i_eq1, b2i_ne0, b2i_ne0]
        refine ⟨in_zI (by omega) (by omega), fun hr => ?_, fun hr => ?_⟩
        · have hr : (f i).1 = false := by simpa using hr
          refine ⟨fun h0 => go_X12_doLet_116 (nx t _ _ ht h47' ?_ ?_), fun h0 => ⟨fun _ => nx t _ _ ht h47' ?_ ?_, fun z => absurd rfl z⟩⟩
          · have h0 : anyB (fun i => po_of f e.2.2 on cmd i && (!(f i).1 && po_h f e how i)) i = true := by simpa using h0
            rw [anyB, h0]; rfl
          · rw [allB, hof, hr]; simp
          · have h0 := Decidable.of_not_not h0
            rw [anyB, h0, hh]; simp [b2i]
          · rw [allB, hof, hr]; simp
        · have hr := Decidable.of_not_not hr
          have h100 : at_X12_doLet_100 X (d + 2) K E t (zI b0) (zI cmd) (b2i how) (b2i (anyB (fun i => po_of f e.2.2 on cmd i && (!(f i).1 && po_h f e how i)) i)) (zI i) := by
            refine go_X12_doLet_100 (nx t _ _ ht h47' ?_ ?_)
            · rw [anyB, hr]; simp
            · rw [allB, hof, hr, hh]; simp [b2i]
          exact ⟨fun _ => h100, fun _ => ⟨fun _ => h100, fun z => absurd rfl z⟩⟩
theorem ct_doLet {X : bi_X} {d : Nat} {K : Int32 → bi_St → Prop} {E : Nat → bi_St → Prop} {C p cmd b0 : Nat} {f : Nat → Pol} {e : ev_E} {how : Bool} {s : bi_St} (hcmd : cmd ≤ 4) (hb0 : b0 ≤ 72) (hB : BR s C p f) (he : envR s C e)
    (k : ∀ t, fr wD s t → K (b2i (po_let p f e (st_g s 90 (b0 + 6)) cmd how)) t) : cI X (d + 2) 215 [.ref 77, .int (zI b0), .int (zI cmd), .int (b2i how)] s K E := by
  have h0 : fr wD s (st_p s 77 47 0) := fr.refl.p rfl
  exact en_X12_doLet (ct_doLetL hcmd hb0 p 0 _ (by omega) (by omega) (BR_wD h0 hB) (envR_fr h0 he) (g_p_eq _ _ _ _) rfl (fun t ht => by
    have := k t (h0.trans ht)
    rw [h0.g (wD_ne (by omega) (by omega))]
    exact this))
end POL
