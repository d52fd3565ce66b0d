/-! ===== both sides and one mathematical state ===== -/
section REL
/-- columns, roles, policies, views -/
abbrev Bk : Type := Nat × Nat × Nat × (Nat → Pol) × Nat × (Nat → Vw)
/-- the state, acts, what is seen -/
abbrev Sx : Type := Sta × List Sta × Nat × Wt
/-- a plan: steps, the AS of the table, the answer, what was told, done .. -/
abbrev Pn : Type := List Sp × Nat × Int32 × Zq
def onb (p : Nat) (S : Sta) : Prop := ∀ i, p ≤ i → i < 32 → tb S.2.1 i = false
def okX (R p : Nat) (x : Sx) : Prop := (wfS R x.1 ∧ onb p x.1) ∧ ∀ S, S ∈ x.2.1 → wfS R S ∧ onb p S
def okB (k : Bk) : Prop := (1 ≤ k.1 ∧ k.1 ≤ 4) ∧ k.2.1 ≤ 6 ∧ k.2.2.1 ≤ 8 ∧ vok k.2.2.2.2.2 k.2.2.2.2.1 ∧ (∀ i, i < k.2.2.1 → plen (k.2.2.2.1 i).2.2.2.1 ≤ 700) ∧ ∀ w, w < k.2.2.2.2.1 → (k.2.2.2.2.2 w).2.2.2.2.length ≤ 700
def okP (n : Pn) : Prop := n.1.length ≤ 9 ∧ ∀ q, 16 ≤ q → q < 32 → tb n.2.2.1 q = false
def BkC (s : bi_St) (b : Nat) (k : Bk) : Prop := BC s b k.1 k.2.2.1 k.2.2.2.1 ∧ BX s b k.2.2.1 k.2.2.2.1 ∧ VC s b k.1 k.2.2.2.2.1 k.2.2.2.2.2 ∧ st_g s b 0 = zI k.1 ∧ st_g s b 1 = zI k.2.1
def BkR (s : bi_St) (k : Bk) : Prop := BR s k.1 k.2.2.1 k.2.2.2.1 ∧ RX s k.2.2.1 k.2.2.2.1 ∧ VR s k.1 k.2.2.2.2.1 k.2.2.2.2.2 ∧ st_g s 77 28 = zI k.1 ∧ st_g s 77 27 = zI k.2.1
def StC (s : bi_St) (a C : Nat) (x : Sx) : Prop := HA s a C x.2.1.length x.1 x.2.1 ∧ WC s a x.2.2.1 x.2.2.2 ∧ ∀ i, x.2.2.1 ≤ i → i < 32 → tb (st_g s a 7) i = false
def StR (s : bi_St) (C : Nat) (x : Sx) : Prop := SR s 0 C x.1 ∧ AR C s 91 x.2.1.length x.2.1 ∧ st_g s 77 40 = zI x.2.1.length ∧ WR s x.2.2.1 x.2.2.2
def SeR (s : bi_St) (w m : Nat) (W : Wt) : Prop := m ≤ 8 ∧ ∀ i, i < m → st_g s w (3 * i) = zI (W i).1 ∧ (W i).1 < 6 ∧ st_g s w (3 * i + 1) = zI (W i).2.1 ∧ (W i).2.1 < 16 ∧ st_g s w (3 * i + 2) = b2i (W i).2.2
def ImR (s : bi_St) (C : Nat) (x : Sx) : Prop := SN s 109 0 C x.1 ∧ AR C s 110 x.2.1.length x.2.1 ∧ st_g s 77 68 = zI x.2.1.length ∧ st_g s 77 69 = zI x.2.2.1 ∧ SeR s 111 x.2.2.1 x.2.2.2
def PlC (s : bi_St) (n : Pn) : Prop := (st_g s 65 2 = zI n.1.length ∧ st_g s 65 3 = n.2.2.1 ∧ st_g s 65 4 = n.2.2.2.2.2.1 ∧ st_g s 65 5 = n.2.2.2.2.2.2.1 ∧ st_g s 65 6 = n.2.2.2.2.2.2.2.1 ∧ st_g s 65 7 = n.2.2.2.2.2.2.2.2 ∧ st_g s 65 8 = zI n.2.1) ∧ ∀ i x, n.1[i]? = some x → st_g s (st_gp s (10 + i)) 0 = zI x.1 ∧ st_g s (st_gp s (10 + i)) 1 = x.2.1 ∧ st_g s (st_gp s (10 + i)) 2 = zI x.2.2.1 ∧ st_g s (st_gp s (10 + i)) 5 = b2i x.2.2.2.1 ∧ st_g s (st_gp s (10 + i)) 7 = n.2.2.2.1 i ∧ st_g s (st_gp s (10 + i)) 8 = n.2.2.2.2.1 i
def PlR (s : bi_St) (n : Pn) : Prop := (st_g s 77 49 = zI n.1.length ∧ st_g s 97 0 = (if n.2.2.2.2.2.1 = -1 then zI (bc n.2.2.1 16) else -1) ∧ st_g s 97 1 = n.2.2.1 ∧ st_g s 97 2 = n.2.2.2.2.2.1 ∧ st_g s 97 3 = n.2.2.2.2.2.2.1 ∧ st_g s 97 4 = zI n.1.length ∧ st_g s 97 5 = n.2.2.2.2.2.2.2.1 ∧ st_g s 97 6 = n.2.2.2.2.2.2.2.2 ∧ st_g s 97 7 = zI n.2.1) ∧ ∀ i x, n.1[i]? = some x → st_g s 94 (6 * i) = zI x.1 ∧ st_g s 94 (6 * i + 1) = x.2.1 ∧ st_g s 94 (6 * i + 2) = zI x.2.2.1 ∧ st_g s 94 (6 * i + 3) = b2i x.2.2.2.1 ∧ st_g s 95 i = n.2.2.2.1 i ∧ st_g s 96 i = n.2.2.2.2.1 i
/-- the class's steps are nine -/
def StpS (s : bi_St) : Prop := (∀ i, i < 9 → st_isp (st_gp s (10 + i))) ∧ ∀ i j, i < 9 → j < 9 → st_gp s (10 + i) = st_gp s (10 + j) → i = j
def opt {α : Type} (P : α → Prop) (o : Option α) : Prop := match o with
  | none => True
  | some x => P x
/-- where books and states lie -/
def Rf (s : bi_St) (b b' a a' : Nat) : Prop := (st_gp s 0 = b ∧ st_gp s 1 = b' ∧ st_gp s 2 = a ∧ st_gp s 3 = a') ∧ (st_isB b ∧ st_isB b' ∧ b ≠ b') ∧ (a = 31 ∨ a = 37) ∧ (a' = 31 ∨ a' = 37) ∧ a ≠ a'
def TpC (s : bi_St) (B : Nat → Nat) (m : Nat) : Prop := m ≤ 700 ∧ st_g s 1 1 = zI m ∧ ∀ i, i < m → B i < 256 ∧ st_g s 2 i = sb (B i)
def TpR (s : bi_St) (B : Nat → Nat) (m : Nat) : Prop := m ≤ 700 ∧ st_g s 77 2 = zI m ∧ ∀ i, i < m → B i < 256 ∧ st_g s 78 i = zI (B i)
abbrev Ms6 : Type := ((Nat → Nat) × Nat) × Bk × Sx × Option Sx × Option Pn × (Nat → Int32) × Int32
/-- the class -/
def RCl (s : bi_St) (b b' a a' : Nat) (M : Ms6) : Prop :=
  Rf s b b' a a' ∧ TpC s M.1.1 M.1.2 ∧ (st_g s 3 3 = zI 5 ∧ st_g s (b + 8) 3 = zI 19 ∧ st_g s (b' + 8) 3 = zI 19) ∧ BkC s b M.2.1 ∧ StC s a M.2.1.1 M.2.2.1 ∧ StpS s ∧
  (st_g s 65 1 = b2i M.2.2.2.2.1.isSome ∧ opt (PlC s) M.2.2.2.2.1) ∧ (st_g s 0 14 = b2i M.2.2.2.1.isSome ∧ opt (StC s 51 M.2.1.1) M.2.2.2.1) ∧ (∀ i, i < 3 → st_g s 76 i = M.2.2.2.2.2.1 i) ∧ st_g s 0 15 = M.2.2.2.2.2.2
/-- the reference -/
def RRf (s : bi_St) (M : Ms6) : Prop :=
  TpR s M.1.1 M.1.2 ∧ BkR s M.2.1 ∧ StR s M.2.1.1 M.2.2.1 ∧
  (st_g s 77 48 = b2i M.2.2.2.2.1.isSome ∧ opt (PlR s) M.2.2.2.2.1) ∧ (st_g s 77 67 = b2i M.2.2.2.1.isSome ∧ opt (ImR s M.2.1.1) M.2.2.2.1) ∧ (∀ i, i < 3 → st_g s 79 i = M.2.2.2.2.2.1 i) ∧ st_g s 77 4 = M.2.2.2.2.2.2
/-- what the mathematical state keeps to -/
def okM (M : Ms6) : Prop := okB M.2.1 ∧ okX M.2.1.2.1 M.2.1.2.2.1 M.2.2.1 ∧ opt (okX M.2.1.2.1 M.2.1.2.2.1) M.2.2.2.1 ∧ opt okP M.2.2.2.2.1
theorem opt_mono {α : Type} {P Q : α → Prop} {o : Option α} (h : ∀ x, P x → Q x) (k : opt P o) : opt Q o := by
  cases o with
  | none => exact trivial
  | some x => exact h x k
theorem BkC_fr {s t : bi_St} {b : Nat} {k : Bk} (h : ∀ c q, b ≤ c → c ≤ b + 11 → st_g t c q = st_g s c q) (hk : BkC s b k) : BkC t b k :=
  ⟨BC_fr h hk.1, BX_fr h hk.2.1, VC_fr h hk.2.2.1, by rw [h _ _ (by omega) (by omega)]; exact hk.2.2.2.1, by rw [h _ _ (by omega) (by omega)]; exact hk.2.2.2.2⟩
theorem HA_fr {s t : bi_St} {a C m : Nat} {S : Sta} {H : List Sta} (h : ∀ c q, a ≤ c → c ≤ a + 5 → st_g t c q = st_g s c q) (hh : HA s a C m S H) : HA t a C m S H := by
  obtain ⟨h1, h2, h3, h4, h5⟩ := hh
  exact ⟨h1, h2, by rw [h _ _ (by omega) (by omega)]; exact h3, SC_fr (fun c k x y => h c k x (by omega)) h4, AC_congr h1 _ _ _ (fun i j _ _ => by unfold ae; rw [h _ _ (by omega) (by omega)]) h5⟩
theorem StC_fr {s t : bi_St} {a C : Nat} {x : Sx} (h : ∀ c q, a ≤ c → c ≤ a + 5 → st_g t c q = st_g s c q) (hx : StC s a C x) : StC t a C x :=
  ⟨HA_fr h hx.1, WC_fr h hx.2.1, fun i h1 h2 => by rw [h _ _ (by omega) (by omega)]; exact hx.2.2 i h1 h2⟩
theorem PlC_fr {s t : bi_St} {n : Pn} (h : ∀ c q, (c = 65 ∨ (67 ≤ c ∧ c ≤ 75)) → st_g t c q = st_g s c q) (hp : ∀ i, i < 9 → st_gp t (10 + i) = st_gp s (10 + i)) (hl : n.1.length ≤ 9) (hs : StpS s) (hn : PlC s n) : PlC t n := by
  obtain ⟨⟨a1, a2, a3, a4, a5, a6, a7⟩, hn⟩ := hn
  refine ⟨⟨by rw [h _ _ (by omega)]; exact a1, by rw [h _ _ (by omega)]; exact a2, by rw [h _ _ (by omega)]; exact a3, by rw [h _ _ (by omega)]; exact a4, by rw [h _ _ (by omega)]; exact a5, by rw [h _ _ (by omega)]; exact a6, by rw [h _ _ (by omega)]; exact a7⟩, fun i x hx => ?_⟩
  have hi := (List.getElem?_eq_some_iff.mp hx).1
  have hsp := hs.1 i (by omega)
  have hr : 67 ≤ st_gp s (10 + i) ∧ st_gp s (10 + i) ≤ 75 := by unfold st_isp at hsp; omega
  obtain ⟨b1, b2, b3, b4, b5, b6⟩ := hn i x hx
  rw [hp i (by omega)]
  exact ⟨by rw [h _ _ (by omega)]; exact b1, by rw [h _ _ (by omega)]; exact b2, by rw [h _ _ (by omega)]; exact b3, by rw [h _ _ (by omega)]; exact b4, by rw [h _ _ (by omega)]; exact b5, by rw [h _ _ (by omega)]; exact b6⟩
theorem StpS_fr {s t : bi_St} (hp : ∀ i, i < 9 → st_gp t (10 + i) = st_gp s (10 + i)) (hs : StpS s) : StpS t := ⟨fun i hi => by rw [hp i hi]; exact hs.1 i hi, fun i j hi hj e => hs.2 i j hi hj (by rw [hp i hi, hp j hj] at e; exact e)⟩
theorem isS_31 {a : Nat} (h : a = 31 ∨ a = 37) : st_isS a := by rcases h with h | h <;> (unfold st_isS; omega)
/-- what matters of the class but its state and what was refused -/
def impC (b b' c k : Nat) : Prop := (c = 0) ∨ (c = 1 ∧ k = 1) ∨ c = 2 ∨ (c = 3 ∧ k = 3) ∨ (b ≤ c ∧ c ≤ b + 11) ∨ (c = b' + 8 ∧ k = 3) ∨ (51 ≤ c ∧ c ≤ 56) ∨ c = 65 ∨ (67 ≤ c ∧ c ≤ 75)
theorem RCl_upd {s t : bi_St} {b b' a a' : Nat} {M : Ms6} {x' : Sx} {rf' : Nat → Int32} (ho : okM M) (h : RCl s b b' a a' M) (hg : ∀ c k, impC b b' c k → st_g t c k = st_g s c k) (hp : ∀ i, (i < 4 ∨ (10 ≤ i ∧ i ≤ 18)) → st_gp t i = st_gp s i) (hS : StC t a M.2.1.1 x') (hr : ∀ i, i < 3 → st_g t 76 i = rf' i) : RCl t b b' a a' (M.1, M.2.1, x', M.2.2.2.1, M.2.2.2.2.1, rf', M.2.2.2.2.2.2) := by
  obtain ⟨⟨⟨p0, p1, p2, p3⟩, hb, ha⟩, ⟨t1, t2, t3⟩, ⟨m1, m2, m3⟩, hk, _, hst, ⟨l1, l2⟩, ⟨i1, i2⟩, _, hf⟩ := h
  have hpn := ho.2.2.2
  refine ⟨⟨⟨by rw [hp _ (by omega)]; exact p0, by rw [hp _ (by omega)]; exact p1, by rw [hp _ (by omega)]; exact p2, by rw [hp _ (by omega)]; exact p3⟩, hb, ha⟩, ⟨t1, by rw [hg _ _ (by unfold impC; omega)]; exact t2, fun i hi => ⟨(t3 i hi).1, by rw [hg _ _ (by unfold impC; omega)]; exact (t3 i hi).2⟩⟩, ⟨by rw [hg _ _ (by unfold impC; omega)]; exact m1, by rw [hg _ _ (by unfold impC; omega)]; exact m2, by rw [hg _ _ (by unfold impC; omega)]; exact m3⟩, BkC_fr (fun c q h1 h2 => hg _ _ (by unfold impC; omega)) hk, hS, StpS_fr (fun i hi => hp _ (by omega)) hst, ⟨by rw [hg _ _ (by unfold impC; omega)]; exact l1, ?_⟩, ⟨by rw [hg _ _ (by unfold impC; omega)]; exact i1, opt_mono (fun x hx => StC_fr (fun c q h1 h2 => hg _ _ (by unfold impC; omega)) hx) i2⟩, hr, by rw [hg _ _ (by unfold impC; omega)]; exact hf⟩
  revert l2 hpn
  show opt (PlC s) M.2.2.2.2.1 → opt okP M.2.2.2.2.1 → opt (PlC t) M.2.2.2.2.1
  cases M.2.2.2.2.1 with
  | none => intro _ _; exact trivial
  | some n => intro hn hl; exact PlC_fr (fun c q hc => hg _ _ (by unfold impC; omega)) (fun i hi => hp _ (by omega)) hl.1 hst hn
theorem RCl_keep {s t : bi_St} {b b' a a' : Nat} {M : Ms6} (ho : okM M) (h : RCl s b b' a a' M) (hg : ∀ c k, (impC b b' c k ∨ (a ≤ c ∧ c ≤ a + 5) ∨ c = 76) → st_g t c k = st_g s c k) (hp : ∀ i, (i < 4 ∨ (10 ≤ i ∧ i ≤ 18)) → st_gp t i = st_gp s i) : RCl t b b' a a' M :=
  RCl_upd ho h (fun c k hh => hg c k (Or.inl hh)) hp (StC_fr (fun c q h1 h2 => hg _ _ (Or.inr (Or.inl ⟨h1, h2⟩))) h.2.2.2.2.1) (fun i hi => by rw [hg _ _ (Or.inr (Or.inr rfl))]; exact h.2.2.2.2.2.2.2.2.1 i hi)
theorem BkR_fr {s t : bi_St} {k : Bk} (h77 : ∀ q, 27 ≤ q → q ≤ 30 → st_g t 77 q = st_g s 77 q) (h : ∀ c q, (c = 83 ∨ c = 85 ∨ c = 87) → st_g t c q = st_g s c q) (hk : BkR s k) : BkR t k := by
  obtain ⟨h1, h2, h3, h4, h5⟩ := hk
  exact ⟨BR_fr (h77 _ (by omega) (by omega)) (fun k => h _ _ (by omega)) (fun k => h _ _ (by omega)) h1, fun i hi => ⟨by rw [h _ _ (by omega)]; exact (h2 i hi).1, by rw [h _ _ (by omega)]; exact (h2 i hi).2⟩, VR_fr (h77 _ (by omega) (by omega)) (fun k => h _ _ (by omega)) (fun k => h _ _ (by omega)) h3, by rw [h77 _ (by omega) (by omega)]; exact h4, by rw [h77 _ (by omega) (by omega)]; exact h5⟩
theorem WR_fr {s t : bi_St} {m : Nat} {W : Wt} (h62 : st_g t 77 62 = st_g s 77 62) (h : ∀ k, st_g t 106 k = st_g s 106 k) (hw : WR s m W) : WR t m W := ⟨hw.1, by rw [h62]; exact hw.2.1, fun i hi => by
  obtain ⟨a1, a2, a3, a4, a5⟩ := hw.2.2 i hi
  exact ⟨by rw [h]; exact a1, a2, by rw [h]; exact a3, a4, by rw [h]; exact a5⟩⟩
theorem SeR_fr {s t : bi_St} {w w' m : Nat} {W : Wt} (h : ∀ k, k < 24 → st_g t w' k = st_g s w k) (hw : SeR s w m W) : SeR t w' m W := ⟨hw.1, fun i hi => by
  have := hw.1
  obtain ⟨a1, a2, a3, a4, a5⟩ := hw.2 i hi
  exact ⟨by rw [h _ (by omega)]; exact a1, a2, by rw [h _ (by omega)]; exact a3, a4, by rw [h _ (by omega)]; exact a5⟩⟩
theorem StR_fr {s t : bi_St} {C : Nat} {x : Sx} (hC : C ≤ 4) (h40 : st_g t 77 40 = st_g s 77 40) (h62 : st_g t 77 62 = st_g s 77 62) (h90 : ∀ k, k < 72 → st_g t 90 k = st_g s 90 k) (h : ∀ c k, (c = 91 ∨ c = 106) → st_g t c k = st_g s c k) (hx : StR s C x) : StR t C x :=
  ⟨SR_fr (fun k _ hk => h90 k (by omega)) hC hx.1, AR_cp hC _ _ (fun q _ => h _ _ (by omega)) hx.2.1, by rw [h40]; exact hx.2.2.1, WR_fr h62 (fun k => h _ _ (by omega)) hx.2.2.2⟩
theorem ImR_fr {s t : bi_St} {C : Nat} {x : Sx} (hC : C ≤ 4) (h : ∀ c k, ((c = 77 ∧ (k = 68 ∨ k = 69)) ∨ c = 109 ∨ c = 110 ∨ c = 111) → st_g t c k = st_g s c k) (hx : ImR s C x) : ImR t C x :=
  ⟨SN_cp hC (fun q _ => h _ _ (by omega)) hx.1, AR_cp hC _ _ (fun q _ => h _ _ (by omega)) hx.2.1, by rw [h _ _ (by omega)]; exact hx.2.2.1, by rw [h _ _ (by omega)]; exact hx.2.2.2.1, SeR_fr (fun k _ => h _ _ (by omega)) hx.2.2.2.2⟩
theorem PlR_fr {s t : bi_St} {n : Pn} (h : ∀ c k, ((c = 77 ∧ k = 49) ∨ (94 ≤ c ∧ c ≤ 97)) → st_g t c k = st_g s c k) (hn : PlR s n) : PlR t n := by
  obtain ⟨⟨a0, a1, a2, a3, a4, a5, a6, a7, a8⟩, hn⟩ := hn
  refine ⟨⟨by rw [h _ _ (by omega)]; exact a0, by rw [h _ _ (by omega)]; exact a1, by rw [h _ _ (by omega)]; exact a2, by rw [h _ _ (by omega)]; exact a3, by rw [h _ _ (by omega)]; exact a4, by rw [h _ _ (by omega)]; exact a5, by rw [h _ _ (by omega)]; exact a6, by rw [h _ _ (by omega)]; exact a7, by rw [h _ _ (by omega)]; exact a8⟩, fun i x hx => ?_⟩
  obtain ⟨b1, b2, b3, b4, b5, b6⟩ := hn i x hx
  exact ⟨by rw [h _ _ (by omega)]; exact b1, by rw [h _ _ (by omega)]; exact b2, by rw [h _ _ (by omega)]; exact b3, by rw [h _ _ (by omega)]; exact b4, by rw [h _ _ (by omega)]; exact b5, by rw [h _ _ (by omega)]; exact b6⟩
/-- what matters of the reference but its state and what was refused -/
def impR (c k : Nat) : Prop := (c = 77 ∧ (k = 2 ∨ k = 4 ∨ (27 ≤ k ∧ k ≤ 30) ∨ k = 48 ∨ k = 49 ∨ (67 ≤ k ∧ k ≤ 69))) ∨ c = 78 ∨ c = 83 ∨ c = 85 ∨ c = 87 ∨ (94 ≤ c ∧ c ≤ 97) ∨ (109 ≤ c ∧ c ≤ 111)
def impS (c k : Nat) : Prop := (c = 77 ∧ (k = 40 ∨ k = 62)) ∨ (c = 90 ∧ k < 72) ∨ c = 91 ∨ c = 106
theorem RRf_upd {s t : bi_St} {M : Ms6} {x' : Sx} {rf' : Nat → Int32} (ho : okM M) (h : RRf s M) (hg : ∀ c k, impR c k → st_g t c k = st_g s c k) (hS : StR t M.2.1.1 x') (hr : ∀ i, i < 3 → st_g t 79 i = rf' i) : RRf t (M.1, M.2.1, x', M.2.2.2.1, M.2.2.2.2.1, rf', M.2.2.2.2.2.2) := by
  obtain ⟨⟨t1, t2, t3⟩, hk, _, ⟨l1, l2⟩, ⟨i1, i2⟩, _, hf⟩ := h
  exact ⟨⟨t1, by rw [hg _ _ (by unfold impR; omega)]; exact t2, fun i hi => ⟨(t3 i hi).1, by rw [hg _ _ (by unfold impR; omega)]; exact (t3 i hi).2⟩⟩, BkR_fr (fun q h1 h2 => hg _ _ (by unfold impR; omega)) (fun c q hc => hg _ _ (by unfold impR; omega)) hk, hS, ⟨by rw [hg _ _ (by unfold impR; omega)]; exact l1, opt_mono (fun n hn => PlR_fr (fun c q hc => hg _ _ (by unfold impR; omega)) hn) l2⟩, ⟨by rw [hg _ _ (by unfold impR; omega)]; exact i1, opt_mono (fun x hx => ImR_fr ho.1.1.2 (fun c q hc => hg _ _ (by unfold impR; omega)) hx) i2⟩, hr, by rw [hg _ _ (by unfold impR; omega)]; exact hf⟩
theorem RRf_keep {s t : bi_St} {M : Ms6} (ho : okM M) (h : RRf s M) (hg : ∀ c k, (impR c k ∨ impS c k ∨ c = 79) → st_g t c k = st_g s c k) : RRf t M :=
  RRf_upd ho h (fun c k hh => hg c k (Or.inl hh)) (StR_fr ho.1.1.2 (hg _ _ (by unfold impS; omega)) (hg _ _ (by unfold impS; omega)) (fun k hk => hg _ _ (by unfold impS; omega)) (fun c k hc => hg _ _ (by unfold impS; omega)) h.2.2.1) (fun i hi => by rw [hg _ _ (Or.inr (Or.inr rfl))]; exact h.2.2.2.2.2.1 i hi)
/-- as the class runs the reference stays -/
theorem RRf_hi {s t : bi_St} {M : Ms6} (ho : okM M) (h : RRf s M) (hg : ∀ c k, 77 ≤ c → st_g t c k = st_g s c k) : RRf t M := RRf_keep ho h (fun c k hh => hg c k (by unfold impR impS at hh; omega))
theorem RCl_lo {s t : bi_St} {b b' a a' : Nat} {M : Ms6} (ho : okM M) (h : RCl s b b' a a' M) (hg : ∀ c k, c < 77 → st_g t c k = st_g s c k) (hp : ∀ i, st_gp t i = st_gp s i) : RCl t b b' a a' M :=
  RCl_keep ho h (fun c k hh => hg c k (by
    have hb := isB_r h.1.2.1.1; have hb' := isB_r h.1.2.1.2.1; have ha := h.1.2.2.1
    unfold impC at hh; omega)) (fun i _ => hp i)
end REL
