/-! ===== the whole run ===== -/
section RUN
theorem l6 {L m : Nat} (hL : L ≤ 3072) (hm : m ≤ 4000) (h : ¬ (zI L - (6 : Int32)) < zI m) : m + 6 ≤ L := by
  by_cases h6 : 6 ≤ L
  · rw [show (6 : Int32) = zI 6 from rfl, zI_sub h6, zI_lt (by omega) (by omega)] at h; omega
  · exfalso
    refine h (Int32.lt_of_lt_of_le ?_ (Int32.not_lt.mp (zI_nn (show m < 2147483648 by omega))))
    have : L = 0 ∨ L = 1 ∨ L = 2 ∨ L = 3 ∨ L = 4 ∨ L = 5 := by omega
    rcases this with rfl | rfl | rfl | rfl | rfl | rfl <;> decide
def KE (v : Int32) (t : bi_St) : Prop := v = 1 ∧ t.1.1 ≤ 601024 ∧ t.1.2 ≤ 7293034
theorem law_run {L : Nat} {xs : Nat → Int32} (hL : L ≤ 3072) : ∀ n k s, L ≤ 6 * k + n → 6 * k ≤ L → RLw s → s.1.1 ≤ 113 + k → s.1.2 ≤ 25154 + 6 * k → at_L_law_23 (L, xs) (1973 + 63) KE (fun _ _ => False) s (zI (6 * k)) := by
  intro n
  induction n with
  | zero =>
    intro k s h1 h2 hS c1 c2
    refine law_step (X := (L, xs)) hS (fun hn => ?_) (fun _ => ⟨rfl, by omega, by omega⟩) (fun hn => ?_)
    · have := l6 hL (m := 6 * k) (by omega) hn; omega
    · have := l6 hL (m := 6 * k) (by omega) hn; omega
  | succ n ih =>
    intro k s h1 h2 hS c1 c2
    refine law_step (X := (L, xs)) hS (fun hn => ?_) (fun _ => ⟨rfl, by omega, by omega⟩) (fun hn t ht => ?_)
    · have h6 := l6 hL (m := 6 * k) (by omega) hn
      rw [show zI (6 * k) + (1 : Int32) = zI (6 * k + 1) from zI_add _ 1, show zI (6 * k) + (2 : Int32) = zI (6 * k + 2) from zI_add _ 2, show zI (6 * k) + (3 : Int32) = zI (6 * k + 3) from zI_add _ 3, show zI (6 * k) + (4 : Int32) = zI (6 * k + 4) from zI_add _ 4, show zI (6 * k) + (5 : Int32) = zI (6 * k + 5) from zI_add _ 5]
      exact ⟨in_zI (by show _ < L; omega) (by show L < _; omega), in_zI (by show _ < L; omega) (by show L < _; omega), in_zI (by show _ < L; omega) (by show L < _; omega), in_zI (by show _ < L; omega) (by show L < _; omega), in_zI (by show _ < L; omega) (by show L < _; omega), in_zI (by show _ < L; omega) (by show L < _; omega)⟩
    · have h6 := l6 hL (m := 6 * k) (by omega) hn
      rw [show zI (6 * k) + (6 : Int32) = zI (6 * (k + 1)) from zI_add _ 6]
      have h9 := ht.1
      exact ih (k + 1) t (by omega) (by omega) ht.2 (by omega) (by omega)
theorem law_all (L : Nat) (xs : Nat → Int32) (hL : L ≤ 3072) : ∃ d, d ≤ 2036 ∧ bi_T (L, xs) d 294 (0, [(0, .ref 4999)], [], bi_M00) (fun o => o.1 = .inl (some (.int 1)) ∧ bi_cn o.2 ≤ 601024 ∧ bi_sn o.2 ≤ 7293034) := by
  refine ⟨2036, Nat.le_refl _, bi_to_loop ?_⟩
  have h0 := bi_q0_eq.2
  have k : at_L_law_23 (L, xs) (1973 + 63) KE (fun _ _ => False) st_s0 (zI (6 * 0)) := law_run hL L 0 st_s0 (by omega) (by omega) s0_RL (by rw [h0]; decide) (by rw [h0]; decide)
  refine bi_T_mono (bi_Tww (show bi_T (L, xs) 2036 294 (23, [(0, .ref 4999), (1, .ref 0), (2, .ref 77), (3, .ref 112), (4, .int (0 : Int32))], [], st_mm st_s0) (st_RI KE (fun _ _ => False)) from k) rfl rfl ⟨rfl, rfl, rfl, rfl, rfl, trivial⟩) (fun o ho => ?_)
  rcases ho with ⟨v, t, e, hv, h1, h2⟩ | ⟨_, _, _, h⟩
  · rw [e, hv]; exact ⟨rfl, h1, h2⟩
  · exact absurd h id
end RUN
