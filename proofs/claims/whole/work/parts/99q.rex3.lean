/-! ===== the reference's expression: its machine's states ===== -/
section REX3
def wEx (lo a k : Nat) : Bool := wRk a k || (wWd lo a k || ((Nat.beq a 77 && (Nat.ble 21 k && Nat.ble k 23)) || Nat.beq a 82))
theorem wRk_wEx {lo : Nat} (a k : Nat) (h : wRk a k = true) : wEx lo a k = true := by unfold wEx; rw [h]; rfl
theorem wWd_wEx {lo : Nat} (a k : Nat) (h : wWd lo a k = true) : wEx lo a k = true := by unfold wEx; rw [h]; simp
theorem wEx_77 {lo k : Nat} (h : k = 21 ∨ k = 22 ∨ k = 23 ∨ k = 19 ∨ k = 20) : wEx lo 77 k = true := by
  rcases h with rfl | rfl | rfl | rfl | rfl <;> (unfold wEx wRk wWd; simp)
theorem wEx_82 {lo k : Nat} : wEx lo 82 k = true := by unfold wEx; simp
/-- with a fault -/
def wEb (lo a k : Nat) : Bool := wEx lo a k || (Nat.beq a 77 && (Nat.ble 3 k && Nat.ble k 4))
theorem wEx_wEb {lo : Nat} (a k : Nat) (h : wEx lo a k = true) : wEb lo a k = true := by unfold wEb; rw [h]; rfl
theorem wWd_wEb {lo : Nat} (a k : Nat) (h : wWd lo a k = true) : wEb lo a k = true := wEx_wEb _ _ (wWd_wEx _ _ h)
theorem wEb_77 {lo k : Nat} (h : k = 3 ∨ k = 4 ∨ k = 21 ∨ k = 22 ∨ k = 23 ∨ k = 19 ∨ k = 20) : wEb lo 77 k = true := by
  rcases h with rfl | rfl | rfl | rfl | rfl | rfl | rfl <;> (unfold wEb wEx wRk wWd; simp)
theorem fr.b {lo : Nat} {s t : bi_St} {x y : Int32} (h : fr (wEx lo) s t) : fr (wEb lo) s (st_p (st_p t 77 3 x) 77 4 y) := ((h.mono wEx_wEb).p (wEb_77 (by omega))).p (wEb_77 (by omega))
def opns (w : List Nat) : Nat := w.countP (fun o => Nat.ble 14 o)
/-- the reference at a state of the machine -/
def RM (s : bi_St) (B : Nat → Nat) (N C R lo : Nat) (m : Mx) : Prop := RB s B N ∧ RT s B N m.1 ∧ st_g s 77 3 = 0 ∧ st_g s 77 14 = zI C ∧ st_g s 77 15 = zI R ∧ (C ≤ 4 ∧ R ≤ 6) ∧ RW s lo m.2.1 m.2.2.1 ∧ st_g s 77 21 = zI m.2.2.2.2.1 ∧ (m.2.2.2.2.1 = 1 + opns m.2.2.1 ∧ m.2.2.2.2.1 ≤ 6) ∧ (∀ j, 1 ≤ j → j ≤ m.2.2.2.2.1 → st_g s 82 j = b2i (m.2.2.2.1 j)) ∧ st_g s 77 22 = zI (m.2.1.length + cwt m.2.2.1)
/-- room: behind an operand c = 1, before one c = 0 -/
def RMb (lo c : Nat) (m : Mx) : Prop := 2 * (lo + (wds m.2.1).length + m.2.2.1.length) ≤ 3 * m.1 + c ∧ m.2.2.1.length ≤ m.1
theorem RW_fr {s t : bi_St} {lo : Nat} {out : Lp} {w : List Nat} (h19 : st_g t 77 19 = st_g s 77 19) (h20 : st_g t 77 20 = st_g s 77 20) (h80 : ∀ k, st_g t 80 k = st_g s 80 k) (h81 : ∀ k, st_g t 81 k = st_g s 81 k) (h : RW s lo out w) : RW t lo out w :=
  ⟨h.1, by rw [h19]; exact h.2.1, fun k x hx => by rw [h80]; exact h.2.2.1 k x hx, by rw [h20]; exact h.2.2.2.1, fun j x hx => by rw [h81]; exact h.2.2.2.2 j x hx⟩
/-- the next token is gone to -/
theorem ct_goM {X : bi_X} {d : Nat} {K : bi_St → Prop} {E : Nat → bi_St → Prop} {s : bi_St} {B : Nat → Nat} {N lo q : Nat} (hB : RB s B N) (hq : q ≤ N) (h7 : st_g s 77 7 = zI q) (k : ∀ t, fr wRk s t → RB t B N → RT t B N q → K t) : cV X (d + 1) 172 [.ref 77] s K E :=
  ct_goes hB hq h7 (fun t ht hr => k t ht (RB_rk ht hB) hr)
section BAD
variable {X : bi_X} {d : Nat} {K : bi_St → Prop} {E : Nat → bi_St → Prop}
/-- behind a fault nothing more is read -/
theorem bad4 {s : bi_St} {y2 y3 : Int32} (h3 : ¬ st_g s 77 3 = 0) (k : K s) : at_X12_operand_4 X (d + 2) K E s y2 y3 := by
  have h201 : at_X12_operand_201 X (d + 2) K E s := go_X12_operand_201 (en_X12_part (ct_isGoodN h3 ⟨fun z => absurd rfl z, fun _ => k⟩))
  exact go_X12_operand_4 ⟨fun _ => h201, fun _ => ct_isGoodN h3 ⟨fun _ => h201, fun z => absurd rfl z⟩⟩
theorem bad198 {s : bi_St} {y2 y3 : Int32} (h3 : ¬ st_g s 77 3 = 0) (k : K s) : at_X12_operand_198 X (d + 2) K E s y2 y3 := go_X12_operand_198 (bad4 h3 k)
theorem bad146 {s : bi_St} {y2 y5 : Int32} (h3 : ¬ st_g s 77 3 = 0) (k : K s) : at_X12_operand_146 X (d + 2) K E s y2 y5 := go_X12_operand_146 (ct_isGoodN h3 ⟨fun _ => go_X12_operand_166 ⟨fun _ => bad198 h3 k, fun z => absurd rfl z⟩, fun z => absurd rfl z⟩)
theorem bad85 {s : bi_St} {y2 : Int32} (h3 : ¬ st_g s 77 3 = 0) (k : K s) : at_X12_operand_85 X (d + 2) K E s y2 := go_X12_operand_85 (ct_isGoodN h3 ⟨fun _ => go_X12_operand_105 ⟨fun _ => bad146 h3 k, fun z => absurd rfl z⟩, fun z => absurd rfl z⟩)
theorem bad18 {s : bi_St} {y2 y4 : Int32} (h3 : ¬ st_g s 77 3 = 0) (k : K s) : at_X12_operand_18 X (d + 2) K E s y2 y4 := go_X12_operand_18 (ct_isGoodN h3 ⟨fun _ => bad85 h3 k, fun z => absurd rfl z⟩)
theorem bad50 {s : bi_St} {y2 y4 : Int32} (h3 : ¬ st_g s 77 3 = 0) (k : K s) : at_X12_operand_50 X (d + 2) K E s y2 y4 := go_X12_operand_50 (ct_isGoodN h3 ⟨fun z => absurd rfl z, fun _ => bad18 h3 k⟩)
/-- a fault ends an expression -/
theorem badE {s : bi_St} {lo n t : Nat} {y : Int32} (h3 : ¬ st_g s 77 3 = 0) (h20 : st_g s 77 20 = zI n) (h19 : st_g s 77 19 = zI t) (hlo : lo ≤ t) (hb : t + n ≤ 1390) (hn : n ≤ 940) (k : ∀ u, fr (wWd lo) s u → K u) : at_X12_expression_398 X (d + 2) K E s y := by
  have h401 : at_X12_expression_401 X (d + 2) K E s := by
    refine go_X12_expression_401 (ct_isGoodN h3 ⟨fun _ => go_X12_expression_421 ?_, fun z => absurd rfl z⟩)
    refine (ct_dropsL (lo := lo) n t s h20 h19 hlo hb hn (fun u t' hu a1 a2 a3 => ct_puts a1 (by omega) (k _ ((hu.p (w80 (by omega))).p ?_)))).1
    unfold wWd; rfl
  exact go_X12_expression_398 (go_X12_expression_39 ⟨fun _ => h401, fun _ => ct_isGoodN h3 ⟨fun _ => h401, fun z => absurd rfl z⟩⟩)
end BAD
end REX3
