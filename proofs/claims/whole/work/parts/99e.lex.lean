/-! ===== the tape and its tokens: a token is named by the place where the search for it begins ===== -/
section LEX
def isBl (n : Nat) : Bool := Nat.beq n 32 || Nat.beq n 10
def isLt (n : Nat) : Bool := Nat.ble 97 n && Nat.ble n 122
def isDg (n : Nat) : Bool := Nat.ble 48 n && Nat.ble n 57
def scn (p : Nat → Bool) (B : Nat → Nat) (N : Nat) : Nat → Nat → Nat
  | 0, n => n
  | f + 1, n => if n < N ∧ p (B n) = true then scn p B N f (n + 1) else n
def tS (B : Nat → Nat) (N q : Nat) : Nat := scn isBl B N (N - q) q
def tX (B : Nat → Nat) (N a : Nat) : Nat := if N ≤ a then a else if isLt (B a) then scn isLt B N (N - a) a else if isDg (B a) then scn isDg B N (N - a) a else a + 1
def tE (B : Nat → Nat) (N q : Nat) : Nat := tX B N (tS B N q)
def kX (B : Nat → Nat) (N a : Nat) : Nat := if N ≤ a then 0 else if isLt (B a) then 1 else if isDg (B a) then 2 else 3
def tK (B : Nat → Nat) (N q : Nat) : Nat := kX B N (tS B N q)
def tL (B : Nat → Nat) (N q : Nat) : Nat := tE B N q - tS B N q
def dv (B : Nat → Nat) (a : Nat) : Nat → Nat
  | 0 => 0
  | k + 1 => dv B a k * 10 + (B (a + k) - 48)
def tV (B : Nat → Nat) (N q : Nat) : Nat := dv B (tS B N q) (min (tL B N q) 4)
/-- the sign, 0 where there is none -/
def tG (B : Nat → Nat) (N q : Nat) : Nat := if tK B N q = 3 then B (tS B N q) else 0
theorem scn_ge {p : Nat → Bool} {B : Nat → Nat} {N : Nat} : ∀ f n, n ≤ scn p B N f n := by
  intro f
  induction f with
  | zero => intro n; exact Nat.le_refl n
  | succ f ih =>
    intro n
    rw [scn]
    by_cases h : n < N ∧ p (B n) = true
    · rw [if_pos h]; have := ih (n + 1); omega
    · rw [if_neg h]; exact Nat.le_refl n
theorem scn_le {p : Nat → Bool} {B : Nat → Nat} {N : Nat} : ∀ f n, n ≤ N → scn p B N f n ≤ N := by
  intro f
  induction f with
  | zero => intro n h; exact h
  | succ f ih =>
    intro n hn
    rw [scn]
    by_cases h : n < N ∧ p (B n) = true
    · rw [if_pos h]; exact ih (n + 1) (by omega)
    · rw [if_neg h]; exact hn
theorem scn_all {p : Nat → Bool} {B : Nat → Nat} {N : Nat} : ∀ f n i, n ≤ i → i < scn p B N f n → p (B i) = true := by
  intro f
  induction f with
  | zero => intro n i h1 h2; rw [scn] at h2; omega
  | succ f ih =>
    intro n i h1 h2
    rw [scn] at h2
    by_cases h : n < N ∧ p (B n) = true
    · rw [if_pos h] at h2
      by_cases hi : i = n
      · rw [hi]; exact h.2
      · exact ih (n + 1) i (by omega) h2
    · rw [if_neg h] at h2; omega
theorem scn_gt {p : Nat → Bool} {B : Nat → Nat} {N a : Nat} (h : a < N) (hp : p (B a) = true) : a < scn p B N (N - a) a := by
  obtain ⟨f, hf⟩ : ∃ f, N - a = f + 1 := ⟨N - a - 1, by omega⟩
  rw [hf, scn, if_pos ⟨h, hp⟩]
  exact scn_ge f (a + 1)
theorem tS_le {B : Nat → Nat} {N q : Nat} (h : q ≤ N) : q ≤ tS B N q ∧ tS B N q ≤ N := ⟨scn_ge _ _, scn_le _ _ h⟩
theorem tX_le {B : Nat → Nat} {N a : Nat} (h : a ≤ N) : a ≤ tX B N a ∧ tX B N a ≤ N ∧ (a < N → a < tX B N a) := by
  unfold tX
  by_cases h1 : N ≤ a
  · rw [if_pos h1]; exact ⟨Nat.le_refl _, h, fun z => by omega⟩
  · rw [if_neg h1]
    by_cases h2 : isLt (B a) = true
    · rw [if_pos h2]; exact ⟨scn_ge _ _, scn_le _ _ h, fun z => scn_gt z h2⟩
    · rw [if_neg h2]
      by_cases h3 : isDg (B a) = true
      · rw [if_pos h3]; exact ⟨scn_ge _ _, scn_le _ _ h, fun z => scn_gt z h3⟩
      · rw [if_neg h3]; exact ⟨by omega, by omega, fun z => by omega⟩
theorem tE_le {B : Nat → Nat} {N q : Nat} (h : q ≤ N) : q ≤ tE B N q ∧ tE B N q ≤ N ∧ tS B N q ≤ tE B N q := by
  have h1 := tS_le (B := B) h
  have h2 := tX_le (B := B) h1.2
  unfold tE; omega
theorem tK_0 {B : Nat → Nat} {N q : Nat} (h : q ≤ N) (hk : tK B N q ≠ 0) : tS B N q < N ∧ tS B N q < tE B N q := by
  have h1 := tS_le (B := B) h
  have h2 := tX_le (B := B) h1.2
  unfold tK kX at hk
  by_cases h3 : N ≤ tS B N q
  · rw [if_pos h3] at hk; exact absurd rfl hk
  · exact ⟨by omega, h2.2.2 (by omega)⟩
def sb (n : Nat) : Int32 := if n < 128 then zI n else zI n - 256
theorem sb_lt : ∀ n : Fin 256, ((¬ sb n.1 < 97) ∧ (¬ 122 < sb n.1)) ↔ isLt n.1 = true := by decide +kernel
theorem sb_dgt : ∀ n : Fin 256, ((¬ sb n.1 < 48) ∧ (¬ 57 < sb n.1)) ↔ isDg n.1 = true := by decide +kernel
theorem sb_bl : ∀ n : Fin 256, (sb n.1 = 32 ∨ sb n.1 = 10) ↔ isBl n.1 = true := by decide +kernel
theorem sb_eq {n c : Nat} (hn : n < 256) (hc : c < 128) : sb n = zI c ↔ n = c := by
  unfold sb
  by_cases h : n < 128
  · rw [if_pos h]; exact zI_eq (by omega) (by omega)
  · rw [if_neg h]
    refine ⟨fun z => ?_, fun z => by omega⟩
    have e : zI n = zI c + 256 := by rw [← z, Int32.sub_add_cancel]
    have e2 : zI c + 256 = zI (c + 256) := zI_add c 256
    rw [e2, zI_eq (by omega) (by omega)] at e; omega
/-- the class's tape -/
def TB (s : bi_St) (B : Nat → Nat) (N : Nat) : Prop := N ≤ 700 ∧ st_g s 1 2 = zI N ∧ ∀ i, i < N → B i < 256 ∧ st_g s 2 i = sb (B i)
/-- the class's token -/
def CT (s : bi_St) (B : Nat → Nat) (N q : Nat) : Prop := q ≤ N ∧ st_g s 1 3 = zI (tK B N q) ∧ st_g s 1 4 = zI (tS B N q) ∧ st_g s 1 5 = zI (tE B N q) ∧ (tK B N q = 2 → st_g s 1 7 = b2i (decide (4 < tL B N q)) ∧ st_g s 1 6 = (if 4 < tL B N q then 0 else zI (tV B N q)))
def wTk (a k : Nat) : Bool := Nat.beq a 1 && (Nat.ble 3 k && Nat.ble k 8)
theorem wTk_ne {a k : Nat} (h : a ≠ 1) : wTk a k = false := by unfold wTk; rw [beq_ne h]; rfl
theorem TB_fr {s t : bi_St} {B : Nat → Nat} {N : Nat} (h2 : st_g t 1 2 = st_g s 1 2) (h : ∀ k, st_g t 2 k = st_g s 2 k) (hT : TB s B N) : TB t B N :=
  ⟨hT.1, by rw [h2]; exact hT.2.1, fun i hi => by rw [h]; exact hT.2.2 i hi⟩
theorem TB_tk {s t : bi_St} {B : Nat → Nat} {N : Nat} (h : fr wTk s t) (hT : TB s B N) : TB t B N := TB_fr (h.g rfl) (fun k => h.g (wTk_ne (by omega))) hT
theorem dv_lt {B : Nat → Nat} {a : Nat} : ∀ k, (∀ i, i < k → isDg (B (a + i)) = true) → dv B a k < 10 ^ k := by
  intro k
  induction k with
  | zero => intro _; exact Nat.one_pos
  | succ k ih =>
    intro h
    have h1 := ih (fun i hi => h i (by omega))
    have h2 := h k (by omega)
    unfold isDg at h2
    rw [Bool.and_eq_true] at h2
    have h3 := Nat.le_of_ble_eq_true h2.1
    have h4 := Nat.le_of_ble_eq_true h2.2
    rw [dv, Nat.pow_succ]; omega
theorem tK_dg {B : Nat → Nat} {N q : Nat} (h : tK B N q = 2) : ∀ i, tS B N q ≤ i → i < tE B N q → isDg (B i) = true := by
  intro i h1 h2
  unfold tK kX at h
  unfold tE tX at h2
  by_cases a1 : N ≤ tS B N q
  · rw [if_pos a1] at h; omega
  · rw [if_neg a1] at h h2
    by_cases a2 : isLt (B (tS B N q)) = true
    · rw [if_pos a2] at h; omega
    · rw [if_neg a2] at h h2
      by_cases a3 : isDg (B (tS B N q)) = true
      · rw [if_pos a3] at h2; exact scn_all _ _ i h1 h2
      · rw [if_neg a3] at h; omega
theorem tK_lt {B : Nat → Nat} {N q : Nat} (h : tK B N q = 1) : ∀ i, tS B N q ≤ i → i < tE B N q → isLt (B i) = true := by
  intro i h1 h2
  unfold tK kX at h
  unfold tE tX at h2
  by_cases a1 : N ≤ tS B N q
  · rw [if_pos a1] at h; omega
  · rw [if_neg a1] at h h2
    by_cases a2 : isLt (B (tS B N q)) = true
    · rw [if_pos a2] at h2; exact scn_all _ _ i h1 h2
    · rw [if_neg a2] at h
      by_cases a3 : isDg (B (tS B N q)) = true
      · rw [if_pos a3] at h; omega
      · rw [if_neg a3] at h; omega
theorem tV_lt {B : Nat → Nat} {N q : Nat} (h : tK B N q = 2) : tV B N q < 10000 := by
  unfold tV
  have := dv_lt (B := B) (a := tS B N q) (min (tL B N q) 4) (fun i hi => tK_dg h _ (by omega) (by unfold tL at hi; omega))
  have h2 : 10 ^ (min (tL B N q) 4) ≤ 10 ^ 4 := Nat.pow_le_pow_right (by omega) (by omega)
  omega
theorem ct_workOut {X : bi_X} {d : Nat} {K : bi_St → Prop} {E : Nat → bi_St → Prop} {s : bi_St} {B : Nat → Nat} {N a e : Nat} (hT : TB s B N) (ha : a ≤ e) (he : e ≤ N) (h4 : st_g s 1 4 = zI a) (h5 : st_g s 1 5 = zI e) (hd : ∀ i, a ≤ i → i < e → isDg (B i) = true)
    (k : ∀ t, fr wTk s t → (∀ q, q ≠ 6 → q ≠ 7 → st_g t 1 q = st_g s 1 q) → st_g t 1 7 = b2i (decide (4 < e - a)) → st_g t 1 6 = (if 4 < e - a then 0 else zI (dv B a (min (e - a) 4))) → K t) : cV X d 95 [.ref 1] s K E := by
  have hN := hT.1
  have loop : ∀ m n (t : bi_St), m + n = e - a → e - a ≤ 4 → fr wTk s t → (∀ q, q ≠ 6 → q ≠ 7 → st_g t 1 q = st_g s 1 q) → st_g t 1 7 = 0 → st_g t 1 6 = zI (dv B a n) → at_X8_workOutNumber_32 X d K E t (zI (a + n)) := by
    intro m
    induction m with
    | zero =>
      intro n t hm hle ht ho h7 h6
      have k := k t ht ho (by rw [h7, decide_eq_false (by omega)]; rfl) (by rw [h6, if_neg (by omega), show min (e - a) 4 = n by omega])
      refine go_X8_workOutNumber_32 ⟨fun _ => k, fun z => absurd ?_ z⟩
      rw [ho 5 (by omega) (by omega), h5]; exact (zI_le (by omega) (by omega)).mpr (by omega)
    | succ m ih =>
      intro n t hm hle ht ho h7 h6
      have hTt := TB_tk ht hT
      have hb := hTt.2.2 (a + n) (by omega)
      have hdg := hd (a + n) (by omega) (by omega)
      unfold isDg at hdg
      rw [Bool.and_eq_true] at hdg
      have h3 := Nat.le_of_ble_eq_true hdg.1
      have h4' := Nat.le_of_ble_eq_true hdg.2
      refine go_X8_workOutNumber_32 ⟨fun z => ?_, fun _ => ⟨fun z => absurd h7 z, fun _ => ⟨in_zI (by omega) (by omega), ?_⟩⟩⟩
      · rw [ho 5 (by omega) (by omega), h5, zI_le (by omega) (by omega)] at z; omega
      · rw [zI_nat (by omega), zI_add1, hb.2, h6]
        have es : sb (B (a + n)) = zI (B (a + n)) := by unfold sb; rw [if_pos (by omega)]
        have ev : zI (dv B a n) * 10 + zI (B (a + n)) - 48 = zI (dv B a (n + 1)) := by
          have e1 : zI (dv B a n) * 10 = zI (dv B a n * 10) := zI_mul _ 10
          have e2 : zI (dv B a n * 10 + B (a + n)) - 48 = zI (dv B a n * 10 + B (a + n) - 48) := zI_sub (m := 48) (by omega)
          rw [e1, zI_add, e2, dv]; congr 1; omega
        rw [es, ev]
        exact ih (n + 1) _ (by omega) hle (ht.p rfl) (fun q h1 h2 => by rw [g_p_k h1]; exact ho q h1 h2) (by rw [g_p_k (by omega)]; exact h7) (g_p_eq _ _ _ _)
  have es : zI e - zI a = zI (e - a) := zI_sub ha
  refine en_X8_workOutNumber ?_
  rw [h5, h4, es]
  have e4 : (zI (e - a) ≤ 4) ↔ e - a ≤ 4 := zI_le (b := 4) (by omega) (by omega)
  rw [e4]
  refine ⟨fun hle => ?_, fun hle => ?_⟩
  · rw [g_p_k (by omega), g_p_k (by omega), h4]
    have := loop (e - a) 0 (st_p (st_p s 1 7 (0 : Int32)) 1 6 (0 : Int32)) (by omega) hle ((fr.refl.p rfl).p rfl) (fun q h1 h2 => by rw [g_p_k h1, g_p_k h2]) (by rw [g_p_k (by omega), g_p_eq]) (by rw [g_p_eq]; rfl)
    exact this
  · rw [g_p_k (by omega), g_p_k (by omega), h4]
    have k := k (st_p (st_p s 1 7 (1 : Int32)) 1 6 (0 : Int32)) ((fr.refl.p rfl).p rfl) (fun q h1 h2 => by rw [g_p_k h1, g_p_k h2]) (by rw [g_p_k (by omega), g_p_eq, decide_eq_true (by omega)]; rfl) (by rw [g_p_eq, if_pos (by omega)])
    refine go_X8_workOutNumber_32 ⟨fun _ => k, fun _ => ⟨fun _ => k, fun z => absurd ?_ z⟩⟩
    rw [g_p_k (by omega), g_p_eq]; decide
theorem ct_scanC {X : bi_X} {d : Nat} {K : bi_St → Prop} {E : Nat → bi_St → Prop} {s : bi_St} {B : Nat → Nat} {N q : Nat} (hT : TB s B N) (hq : q ≤ N) (h5 : st_g s 1 5 = zI q)
    (k : ∀ t, fr wTk s t → CT t B N q → st_g t 1 8 = st_g s 1 8 → K t) : at_X8_advance_32 X (d + 1) K E s := by
  have hN := hT.1
  have tok : ∀ (t : bi_St) a, a = tS B N q → fr wTk s t → st_g t 1 5 = zI a → st_g t 1 8 = st_g s 1 8 → at_X8_advance_84 X (d + 1) K E t := by
    intro t a ha ht t5 t8
    have hS := tS_le (B := B) hq
    have hE := tE_le (B := B) hq
    have haN : a ≤ N := by omega
    have hTt := TB_tk ht hT
    refine go_X8_advance_84 ?_
    rw [t5]
    have f1 : fr wTk s (st_p t 1 4 (zI a)) := ht.p rfl
    have g4 : st_g (st_p t 1 4 (zI a)) 1 4 = zI a := g_p_eq _ _ _ _
    have g5 : st_g (st_p t 1 4 (zI a)) 1 5 = zI a := by rw [g_p_k (by omega)]; exact t5
    have g8 : st_g (st_p t 1 4 (zI a)) 1 8 = st_g s 1 8 := by rw [g_p_k (by omega)]; exact t8
    generalize st_p t 1 4 (zI a) = t1 at f1 g4 g5 g8
    have hT1 := TB_tk f1 hT
    rw [g4, hT1.2.1, zI_lt (by omega) (by omega)]
    refine ⟨fun hlt => ?_, fun hlt => ?_⟩
    · have hb := hT1.2.2 a hlt
      rw [zI_nat (by omega), hb.2]
      have hl := sb_lt ⟨B a, hb.1⟩
      have hg := sb_dgt ⟨B a, hb.1⟩
      have letter : isLt (B a) = true → at_X8_advance_136 X (d + 1) K E (st_p t1 1 3 (1 : Int32)) := by
        intro hlt2
        have eK : tK B N q = 1 := by unfold tK kX; rw [← ha, if_neg (by omega), if_pos hlt2]
        have eE : tE B N q = scn isLt B N (N - a) a := by unfold tE tX; rw [← ha, if_neg (by omega), if_pos hlt2]
        have loop : ∀ f n (u : bi_St), f = N - n → n ≤ N → fr wTk s u → st_g u 1 3 = zI 1 → st_g u 1 4 = zI a → st_g u 1 5 = zI n → st_g u 1 8 = st_g s 1 8 → tE B N q = scn isLt B N f n → at_X8_advance_136 X (d + 1) K E u := by
          intro f
          induction f with
          | zero =>
            intro n u hf hn hu u3 u4 u5 u8 he
            have hTu := TB_tk hu hT
            refine go_X8_advance_136 ⟨fun _ => go_X8_advance_279 (k u hu ⟨hq, by rw [u3, eK], by rw [u4, ha], by rw [u5, he]; rfl, fun h => by omega⟩ u8), fun z => absurd ?_ z⟩
            rw [hTu.2.1, u5]; exact (zI_le (by omega) (by omega)).mpr (by omega)
          | succ f ih =>
            intro n u hf hn hu u3 u4 u5 u8 he
            have hTu := TB_tk hu hT
            have hbn := hTu.2.2 n (by omega)
            have hln := sb_lt ⟨B n, hbn.1⟩
            rw [scn] at he
            have fin : ¬ isLt (B n) = true → at_X8_advance_279 X (d + 1) K E u := fun hno => by
              rw [if_neg (fun z => hno z.2)] at he
              exact go_X8_advance_279 (k u hu ⟨hq, by rw [u3, eK], by rw [u4, ha], by rw [u5, he], fun h => by omega⟩ u8)
            refine go_X8_advance_136 ⟨fun z => ?_, fun _ => ?_⟩
            · rw [hTu.2.1, u5, zI_le (by omega) (by omega)] at z; omega
            · rw [u5, zI_nat (by omega), hbn.2, zI_add1]
              have hin : bi_in (zI n) 700 = true := in_zI (by omega) (by omega)
              refine ⟨hin, fun z => fin (fun y => (hln.mpr y).1 z), fun z1 => ⟨hin, fun z => fin (fun y => (hln.mpr y).2 z), fun z2 => ?_⟩⟩
              rw [if_pos ⟨by omega, hln.mp ⟨z1, z2⟩⟩] at he
              exact ih (n + 1) _ (by omega) (by omega) (hu.p rfl) (by rw [g_p_k (by omega)]; exact u3) (by rw [g_p_k (by omega)]; exact u4) (g_p_eq _ _ _ _) (by rw [g_p_k (by omega)]; exact u8) he
        exact loop (N - a) a _ rfl haN (f1.p rfl) (g_p_eq _ _ _ _) (by rw [g_p_k (by omega)]; exact g4) (by rw [g_p_k (by omega)]; exact g5) (by rw [g_p_k (by omega)]; exact g8) eE
      have other : ¬ isLt (B a) = true → at_X8_advance_188 X (d + 1) K E t1 (sb (B a)) := by
        intro hnl
        have sign : ¬ isDg (B a) = true → at_X8_advance_264 X (d + 1) K E t1 := by
          intro hnd
          have eK : tK B N q = 3 := by unfold tK kX; rw [← ha, if_neg (by omega), if_neg hnl, if_neg hnd]
          have eE : tE B N q = a + 1 := by unfold tE tX; rw [← ha, if_neg (by omega), if_neg hnl, if_neg hnd]
          refine go_X8_advance_264 (go_X8_advance_279 (k _ ((f1.p rfl).p rfl) ⟨hq, ?_, ?_, ?_, fun h => by omega⟩ ?_))
          · rw [g_p_k (by omega), g_p_eq, eK]; rfl
          · rw [g_p_k (by omega), g_p_k (by omega), g4, ha]
          · rw [g_p_eq, g_p_k (by omega), g5, zI_add1, eE]
          · rw [g_p_k (by omega), g_p_k (by omega)]; exact g8
        refine go_X8_advance_188 ⟨fun z => sign (fun y => (hg.mpr y).1 z), fun z1 => ⟨fun z => sign (fun y => (hg.mpr y).2 z), fun z2 => ?_⟩⟩
        have hdg := hg.mp ⟨z1, z2⟩
        have eK : tK B N q = 2 := by unfold tK kX; rw [← ha, if_neg (by omega), if_neg hnl, if_pos hdg]
        have eE : tE B N q = scn isDg B N (N - a) a := by unfold tE tX; rw [← ha, if_neg (by omega), if_neg hnl, if_pos hdg]
        have fin : ∀ u, fr wTk s u → st_g u 1 3 = zI 2 → st_g u 1 4 = zI a → st_g u 1 5 = zI (tE B N q) → st_g u 1 8 = st_g s 1 8 → at_X8_advance_257 X (d + 1) K E u := by
          intro u hu u3 u4 u5 u8
          refine go_X8_advance_257 (ct_workOut (a := a) (e := tE B N q) (TB_tk hu hT) (by omega) hE.2.1 u4 u5 (by rw [ha]; exact tK_dg eK) (fun w hw wo w7 w6 => go_X8_advance_279 (k w (hu.trans hw) ⟨hq, ?_, ?_, ?_, fun _ => ⟨?_, ?_⟩⟩ ?_)))
          · rw [wo 3 (by omega) (by omega), u3, eK]
          · rw [wo 4 (by omega) (by omega), u4, ha]
          · rw [wo 5 (by omega) (by omega), u5]
          · rw [w7, ha]; rfl
          · rw [w6, ha]; rfl
          · rw [wo 8 (by omega) (by omega)]; exact u8
        have loop : ∀ f n (u : bi_St), f = N - n → n ≤ N → fr wTk s u → st_g u 1 3 = zI 2 → st_g u 1 4 = zI a → st_g u 1 5 = zI n → st_g u 1 8 = st_g s 1 8 → tE B N q = scn isDg B N f n → at_X8_advance_205 X (d + 1) K E u := by
          intro f
          induction f with
          | zero =>
            intro n u hf hn hu u3 u4 u5 u8 he
            have hTu := TB_tk hu hT
            refine go_X8_advance_205 ⟨fun _ => fin u hu u3 u4 (by rw [u5, he]; rfl) u8, fun z => absurd ?_ z⟩
            rw [hTu.2.1, u5]; exact (zI_le (by omega) (by omega)).mpr (by omega)
          | succ f ih =>
            intro n u hf hn hu u3 u4 u5 u8 he
            have hTu := TB_tk hu hT
            have hbn := hTu.2.2 n (by omega)
            have hln := sb_dgt ⟨B n, hbn.1⟩
            rw [scn] at he
            have fin' : ¬ isDg (B n) = true → at_X8_advance_257 X (d + 1) K E u := fun hno => by
              rw [if_neg (fun z => hno z.2)] at he
              exact fin u hu u3 u4 (by rw [u5, he]) u8
            refine go_X8_advance_205 ⟨fun z => ?_, fun _ => ?_⟩
            · rw [hTu.2.1, u5, zI_le (by omega) (by omega)] at z; omega
            · rw [u5, zI_nat (by omega), hbn.2, zI_add1]
              have hin : bi_in (zI n) 700 = true := in_zI (by omega) (by omega)
              refine ⟨hin, fun z => fin' (fun y => (hln.mpr y).1 z), fun z1 => ⟨hin, fun z => fin' (fun y => (hln.mpr y).2 z), fun z2 => ?_⟩⟩
              rw [if_pos ⟨by omega, hln.mp ⟨z1, z2⟩⟩] at he
              exact ih (n + 1) _ (by omega) (by omega) (hu.p rfl) (by rw [g_p_k (by omega)]; exact u3) (by rw [g_p_k (by omega)]; exact u4) (g_p_eq _ _ _ _) (by rw [g_p_k (by omega)]; exact u8) he
        exact loop (N - a) a _ rfl haN (f1.p rfl) (g_p_eq _ _ _ _) (by rw [g_p_k (by omega)]; exact g4) (by rw [g_p_k (by omega)]; exact g5) (by rw [g_p_k (by omega)]; exact g8) eE
      refine ⟨in_zI (by omega) (by omega), fun z => other (fun y => (hl.mpr y).1 z), fun z1 => ⟨fun z => other (fun y => (hl.mpr y).2 z), fun z2 => letter (hl.mp ⟨z1, z2⟩)⟩⟩
    · have eK : tK B N q = 0 := by unfold tK kX; rw [← ha, if_pos (by omega)]
      have eE : tE B N q = a := by unfold tE tX; rw [← ha, if_pos (by omega)]
      refine k _ (f1.p rfl) ⟨hq, ?_, ?_, ?_, fun h => by omega⟩ ?_
      · rw [g_p_eq, eK]; rfl
      · rw [g_p_k (by omega), g4, ha]
      · rw [g_p_k (by omega), g5, eE]
      · rw [g_p_k (by omega)]; exact g8
  have skip : ∀ f n (t : bi_St), f = N - n → n ≤ N → fr wTk s t → st_g t 1 5 = zI n → st_g t 1 8 = st_g s 1 8 → tS B N q = scn isBl B N f n → at_X8_advance_32 X (d + 1) K E t := by
    intro f
    induction f with
    | zero =>
      intro n t hf hn ht t5 t8 he
      have hTt := TB_tk ht hT
      refine go_X8_advance_32 ⟨fun _ => tok t n (by rw [he]; rfl) ht t5 t8, fun z => absurd ?_ z⟩
      rw [hTt.2.1, t5]; exact (zI_le (by omega) (by omega)).mpr (by omega)
    | succ f ih =>
      intro n t hf hn ht t5 t8 he
      have hTt := TB_tk ht hT
      have hbn := hTt.2.2 n (by omega)
      have hln := sb_bl ⟨B n, hbn.1⟩
      rw [scn] at he
      have hin : bi_in (zI n) 700 = true := in_zI (by omega) (by omega)
      have yes : isBl (B n) = true → at_X8_advance_71 X (d + 1) K E t := fun hy => by
        rw [if_pos ⟨by omega, hy⟩] at he
        refine go_X8_advance_71 ?_
        rw [t5, zI_add1]
        exact ih (n + 1) _ (by omega) (by omega) (ht.p rfl) (g_p_eq _ _ _ _) (by rw [g_p_k (by omega)]; exact t8) he
      refine go_X8_advance_32 ⟨fun z => ?_, fun _ => ?_⟩
      · rw [hTt.2.1, t5, zI_le (by omega) (by omega)] at z; omega
      · rw [t5, zI_nat (by omega), hbn.2]
        refine ⟨hin, fun z => yes (hln.mp (Or.inl z)), fun z1 => ⟨hin, fun z2 => ?_, fun z2 => yes (hln.mp (Or.inr (Decidable.of_not_not z2)))⟩⟩
        have hno : ¬ isBl (B n) = true := fun y => by
          rcases hln.mpr y with h | h
          · exact z1 h
          · exact z2 h
        rw [if_neg (fun z => hno z.2)] at he
        exact tok t n he.symm ht t5 t8
  exact skip (N - q) q s rfl hq fr.refl h5 rfl rfl
theorem tG_lt {s : bi_St} {B : Nat → Nat} {N q : Nat} (hT : TB s B N) (hq : q ≤ N) (h3 : tK B N q = 3) : st_g s 2 (tS B N q) = sb (tG B N q) ∧ tG B N q < 256 := by
  have h0 := tK_0 (B := B) hq (by omega)
  have := hT.2.2 _ h0.1
  unfold tG; rw [if_pos h3]; exact ⟨this.2, this.1⟩
theorem ct_isSignC {X : bi_X} {d : Nat} {K : Int32 → bi_St → Prop} {E : Nat → bi_St → Prop} {s : bi_St} {B : Nat → Nat} {N q c : Nat} (hT : TB s B N) (hq : CT s B N q) (hc : 0 < c ∧ c < 128) (k : K (b2i (decide (tG B N q = c))) s) : cI X d 97 [.ref 1, .int (zI c)] s K E := by
  have hN := hT.1
  have hS := tS_le (B := B) hq.1
  have hk : tK B N q ≤ 3 := by
    unfold tK kX
    by_cases h1 : N ≤ tS B N q
    · rw [if_pos h1]; omega
    · rw [if_neg h1]
      by_cases h2 : isLt (B (tS B N q)) = true
      · rw [if_pos h2]; omega
      · rw [if_neg h2]
        by_cases h3 : isDg (B (tS B N q)) = true
        · rw [if_pos h3]; omega
        · rw [if_neg h3]; omega
  have e3 : (zI (tK B N q) = 3) ↔ tK B N q = 3 := zI_eq (b := 3) (by omega) (by omega)
  refine en_X8_isSign ?_
  rw [hq.2.1, hq.2.2.1, e3]
  refine ⟨fun h => ?_, fun h => ?_⟩
  · have : ¬ tG B N q = c := by unfold tG; rw [if_neg h]; omega
    rw [decide_eq_false this] at k; exact k
  · have h := Decidable.of_not_not h
    have hs := tG_lt hT hq.1 h
    have h0 := tK_0 (B := B) hq.1 (by omega)
    rw [zI_nat (by omega), hs.1, sb_eq hs.2 hc.2]
    refine ⟨in_zI (by omega) (by omega), fun h1 => ?_, fun h1 => ?_⟩
    · rw [decide_eq_false h1] at k; exact k
    · rw [decide_eq_true (Decidable.of_not_not h1)] at k; exact k
/-- what passing a token costs -/
def pc1 (B : Nat → Nat) (N q : Nat) : Int32 := if tG B N q = 40 ∨ tG B N q = 41 then 0 else 1
theorem ct_advance {X : bi_X} {d : Nat} {K : bi_St → Prop} {E : Nat → bi_St → Prop} {s : bi_St} {B : Nat → Nat} {N q : Nat} (hT : TB s B N) (hq : CT s B N q)
    (k : ∀ t, fr wTk s t → CT t B N (tE B N q) → st_g t 1 8 = st_g s 1 8 + pc1 B N q → K t) : cV X (d + 1) 94 [.ref 1] s K E := by
  have hE := tE_le (B := B) hq.1
  have go : ∀ v, v = pc1 B N q → at_X8_advance_32 X (d + 1) K E (st_p s 1 8 (st_g s 1 8 + v)) := fun v hv =>
    ct_scanC (TB_tk (fr.refl.p rfl) hT) hE.2.1 (by rw [g_p_k (by omega)]; exact hq.2.2.2.1) (fun t ht hc h8 => k t ((fr.refl.p rfl).trans ht) hc (by rw [h8, g_p_eq, hv]))
  refine en_X8_advance (ct_isSignC (c := 40) hT hq (by omega) ?_)
  rw [b2i_ne0]
  refine ⟨fun h => go 0 ?_, fun h => ct_isSignC (c := 41) hT hq (by omega) ?_⟩
  · have : tG B N q = 40 := by simpa using h
    unfold pc1; rw [if_pos (Or.inl this)]
  · have h1 : ¬ tG B N q = 40 := by simpa using h
    rw [b2i_ne0]
    refine ⟨fun h2 => go 1 ?_, fun h2 => go 0 ?_⟩
    · have h2 : ¬ tG B N q = 41 := by simpa using h2
      unfold pc1; rw [if_neg (by omega)]
    · have : tG B N q = 41 := by simpa using h2
      unfold pc1; rw [if_pos (Or.inr this)]
end LEX
