/-! ===== both sides at the start ===== -/
section START
def ckL : List (Nat × Nat × Int32) := [(1, 1, 0), (3, 3, 5), (15, 3, 19), (27, 3, 19), (7, 2, 0), (7, 8, 0), (7, 0, 2), (7, 1, 0), (31, 4, 0), (31, 0, 0), (31, 3, 0), (33, 0, 0), (33, 1, 0), (33, 2, 0), (33, 3, 0), (33, 4, 0), (33, 5, 0), (31, 6, 0), (31, 7, 0), (65, 1, 0), (0, 14, 0), (76, 0, 0), (76, 1, 0), (76, 2, 0), (0, 15, -1), (77, 2, 0), (77, 29, 0), (77, 30, 0), (77, 28, 2), (77, 27, 0), (90, 7, 0), (90, 6, 0), (90, 0, 0), (90, 1, 0), (90, 2, 0), (90, 3, 0), (90, 4, 0), (90, 5, 0), (77, 40, 0), (77, 62, 0), (77, 48, 0), (77, 67, 0), (79, 0, 0), (79, 1, 0), (79, 2, 0), (77, 4, -1)]
def ckM (q : Option bi_S) : Bool := match q with
  | some (_, _, _, M) => ckL.all (fun x => decide (M.2.2.1 x.1 x.2.1 = x.2.2))
  | none => false
set_option maxRecDepth 100000 in
theorem ck_q0 : ckM (bi_lwq 13 (0, [(0, .ref 4999)], [], bi_M00)) = true := by decide +kernel
theorem s0_g {a k : Nat} {v : Int32} (h : (a, k, v) ∈ ckL) : st_g st_s0 a k = v := by
  have hc : ckM bi_q0 = true := (congrArg ckM bi_q0_def).trans ck_q0
  rw [bi_q0_eq.1] at hc
  exact of_decide_eq_true (List.all_eq_true.mp hc (a, k, v) h)
def M0 : Ms6 := ((fun _ => 0, 0), (2, 0, 0, fun _ => (false, 0, 0, none, none), 0, fun _ => (0, false, 0, false, [])), ((fun _ => 0, 0, 0, fun _ _ => 0), [], 0, fun _ => (0, 0, false)), none, none, fun _ => 0, -1)
theorem s0_ok : okM M0 := ⟨⟨⟨by decide, by decide⟩, by decide, by decide, ⟨by decide, fun w hw => absurd hw (Nat.not_lt_zero w)⟩, fun i hi => absurd hi (Nat.not_lt_zero i), fun w hw => absurd hw (Nat.not_lt_zero w)⟩, ⟨⟨⟨by decide, fun r _ q _ _ => tb_0 q, fun _ _ _ => rfl⟩, fun i _ _ => tb_0 i⟩, fun S hS => absurd hS List.not_mem_nil⟩, trivial, trivial⟩
theorem s0_C : RCl st_s0 7 19 31 37 M0 := by
  refine ⟨⟨⟨rfl, rfl, rfl, rfl⟩, ⟨Or.inl rfl, Or.inr rfl, by decide⟩, Or.inl rfl, Or.inr rfl, by decide⟩, ⟨by decide, s0_g (by decide), fun i hi => absurd hi (Nat.not_lt_zero i)⟩, ⟨s0_g (by decide), s0_g (by decide), s0_g (by decide)⟩, ⟨⟨Or.inl rfl, by decide, by decide, s0_g (by decide), fun i hi => absurd hi (Nat.not_lt_zero i)⟩, fun i hi => absurd hi (Nat.not_lt_zero i), ⟨s0_g (by decide), fun i hi => absurd hi (Nat.not_lt_zero i)⟩, s0_g (by decide), s0_g (by decide)⟩, ⟨⟨by decide, by decide, s0_g (by decide), ⟨Or.inl rfl, by decide, s0_g (by decide), s0_g (by decide), fun r hr => ?_, fun r c hr => absurd hr (Nat.not_lt_zero r)⟩, rfl⟩, ⟨by decide, s0_g (by decide), fun i hi => absurd hi (Nat.not_lt_zero i)⟩, fun i _ _ => by rw [s0_g (a := 31) (k := 7) (v := 0) (by decide), tb_0]⟩, ⟨fun i hi => ?_, fun i j hi hj e => ?_⟩, ⟨s0_g (by decide), trivial⟩, ⟨s0_g (by decide), trivial⟩, fun i hi => ?_, s0_g (by decide)⟩
  · have : r = 0 ∨ r = 1 ∨ r = 2 ∨ r = 3 ∨ r = 4 ∨ r = 5 := by omega
    rcases this with rfl | rfl | rfl | rfl | rfl | rfl <;> exact s0_g (by decide)
  · show st_isp (st_m0 (10 + i))
    have : i = 0 ∨ i = 1 ∨ i = 2 ∨ i = 3 ∨ i = 4 ∨ i = 5 ∨ i = 6 ∨ i = 7 ∨ i = 8 := by omega
    rcases this with rfl | rfl | rfl | rfl | rfl | rfl | rfl | rfl | rfl <;> (unfold st_isp; decide)
  · have h : ∀ i, i < 9 → st_m0 (10 + i) = 67 + i := fun i hi => by
      have : i = 0 ∨ i = 1 ∨ i = 2 ∨ i = 3 ∨ i = 4 ∨ i = 5 ∨ i = 6 ∨ i = 7 ∨ i = 8 := by omega
      rcases this with rfl | rfl | rfl | rfl | rfl | rfl | rfl | rfl | rfl <;> rfl
    have e : st_m0 (10 + i) = st_m0 (10 + j) := e
    rw [h i hi, h j hj] at e; omega
  · have : i = 0 ∨ i = 1 ∨ i = 2 := by omega
    rcases this with rfl | rfl | rfl <;> exact s0_g (by decide)
theorem s0_R : RRf st_s0 M0 := by
  refine ⟨⟨by decide, s0_g (by decide), fun i hi => absurd hi (Nat.not_lt_zero i)⟩, ⟨⟨by decide, by decide, s0_g (by decide), fun i hi => absurd hi (Nat.not_lt_zero i)⟩, fun i hi => absurd hi (Nat.not_lt_zero i), ⟨s0_g (by decide), fun i hi => absurd hi (Nat.not_lt_zero i)⟩, s0_g (by decide), s0_g (by decide)⟩, ⟨⟨by decide, by decide, s0_g (by decide), s0_g (by decide), fun r hr => ?_, fun r c hr => absurd hr (Nat.not_lt_zero r)⟩, rfl, s0_g (by decide), ⟨by decide, s0_g (by decide), fun i hi => absurd hi (Nat.not_lt_zero i)⟩⟩, ⟨s0_g (by decide), trivial⟩, ⟨s0_g (by decide), trivial⟩, fun i hi => ?_, s0_g (by decide)⟩
  · have : r = 0 ∨ r = 1 ∨ r = 2 ∨ r = 3 ∨ r = 4 ∨ r = 5 := by omega
    rcases this with rfl | rfl | rfl | rfl | rfl | rfl <;> exact s0_g (by decide)
  · have : i = 0 ∨ i = 1 ∨ i = 2 := by omega
    rcases this with rfl | rfl | rfl <;> exact s0_g (by decide)
theorem s0_RL : RLw st_s0 := ⟨M0, 7, 19, 31, 37, s0_ok, s0_C, s0_R⟩
end START
