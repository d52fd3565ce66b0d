/-! ===== the law's body by its run ===== -/
section LAW
def bi_M00 : bi_Mem := ([], (0, 0), fun _ _ => 0, fun _ _ => 0, fun _ _ => none)
theorem bi_mc294 : bi_mc 294 = code := rfl
theorem bi_hnd294 {pc E : Nat} : bi_hnd 294 pc E = none := rfl
set_option maxHeartbeats 4000000 in
theorem bi_start {p : Program} {e : Env} {s : State} {m : MethodId} {below : List Frame} {meth : Method} {c : Code} {l : Launch} (hl : l.stackTraces = false) {b L : Nat} {xs : Nat → Int32} (C0 : lw_At p s m meth c b L xs) {d : Nat} (hd : d ≤ 2036)
    (hrun : bi_T (L, xs) d 294 (0, [(0, .ref 4999)], [], bi_M00) (fun o => o.1 = .inl (some (.int 1)) ∧ bi_cn o.2 ≤ 601024 ∧ bi_sn o.2 ≤ 7293034)) :
    W p l e room_1 s m #[Value.ref b] below meth c s.heap [] 0 0 (lw_Z below #[Value.ref b] s) (entryFrame m ([Value.ref b] : List Value).toArray 7) := by
  obtain ⟨hx, hb, hr, hml, hown, hts, hX, hbl, hlocks, hgv⟩ := C0
  obtain ⟨D, cA, tx, adV, hEn, hGx⟩ := bi_start_E hts hgv hX hbl
  obtain ⟨n, ⟨o, Mf⟩, hex, ho, hc1, hc2⟩ := hrun
  have ho : o = .inl (some (.int 1)) := ho
  have hc1 : bi_cn Mf ≤ 601024 := hc1
  have hc2 : bi_sn Mf ≤ 7293034 := hc2
  have F : bi_Fx D cA s.heap.size b tx (L, xs) 294 p s m #[Value.ref b] meth c := ⟨hx, hb, hml, hown, fun w hw => hts w (List.mem_filter.mp hw).1, fun h => absurd h (by decide +kernel), hEn, hGx.1⟩
  have hlv := lv_entry ([Value.ref b]) (n := 7) (Nat.le_of_ble_eq_true rfl)
  rw [lg_entry_eq]
  generalize (lg_sl ([Value.ref b]) ++ List.replicate (7 - (lg_sl ([Value.ref b])).length) Slot.unset).toArray = ls at hlv ⊢
  have had : bi_ad s.heap.size b tx 4999 = b := by unfold bi_ad; rw [if_neg (by decide), if_pos rfl]
  have hlv2 : lv_has ls (bi_mi 294).2.1 (bi_lvv (bi_ad s.heap.size b tx) [(0, .ref 4999)]) := by
    show lv_has ls 7 [(0, Value.ref (bi_ad s.heap.size b tx 4999))]
    rw [had]
    exact hlv
  have hW9 : bi_W9 D cA s.heap.size b tx bi_M00 s.heap := ⟨fun k q hq => by simp [bi_wl, bi_M00] at hq, fun _ => Nat.le_refl _, fun a ha => absurd ha (Nat.not_lt_zero a), Nat.zero_le _, Nat.le_refl _⟩
  have k := bi_body (R := room_1) (Q := lw_Z below #[Value.ref b] s) (M0 := bi_M00) (Mf := Mf) (o := o) (e := e) (below := below) (l := l) bi_str_ok bi_SxK_ok (fun d' _ => bi_contract hl bi_str_ok bi_SxK_ok d') F hGx (by show d + 12 ≤ 2048; omega) (by show 40 * d + 200 ≤ 84000; omega) (Nat.le_refl _) (Nat.le_trans (Nat.sub_le _ _) hc1) (Nat.le_trans (Nat.sub_le _ _) hc2) (fun _ => ⟨_, ho⟩)
    (fun v M1 lv st pc H locs ls hst ho2 hle P => by
      obtain ⟨rfl, hv⟩ := bi_stp_ret hst
      rw [ho] at ho2
      cases ho2
      rcases hv with ⟨n, x, hf, rfl, hx1, -⟩ | ⟨n, x, hf, rfl, hx1, -⟩ | ⟨n, hf, hx1, -⟩
      · cases hx1
        have hl1 := bi_len hf
        simp only [Bool.and_eq_true, bi_ilk] at hl1
        have hn := Nat.eq_of_beq_eq_true hl1.1.1
        subst hn
        have hdc : decode code pc = .ok (.ireturn, 1) := by
          have := bi_dec hf
          rw [bi_mc294] at this
          exact this
        refine va_forget (fun q hq => P.2.1.2.2 q hq) ?_
        refine W.widen (k := 601024) (n := 7293034) (Nat.le_trans (Nat.sub_le _ _) hc1) (Nat.le_trans (Nat.sub_le _ _) hc2) ?_
        exact lw_ret hx hb hr hlocks hdc
      · cases hx1
      · cases hx1)
    (fun E M1 lv st pc H locs ls hst ho2 hle P => by rw [ho] at ho2; cases ho2)
    (fun E pc H locs ls rest q ce ho2 hw hS hce hcv hcl => by rw [ho] at ho2; cases ho2)
    (fun E pc pc' k lv H locs ls rest q ce cells slots hh => by rw [bi_hnd294] at hh; cases hh)
    n 0 [(0, .ref 4999)] [] bi_M00 s.heap [] ls hex bi_le.rf ⟨hW9, va_S.rf, hlv2⟩
  simp only [Nat.sub_self] at k
  exact k
end LAW
