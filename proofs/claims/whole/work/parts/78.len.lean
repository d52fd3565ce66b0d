/-- how long an instruction is -/
def bi_ilk (i : Instr) (l : Nat) : Bool := match i with
  | .tableswitch _ _ _ _ => true
  | .aload _ => Nat.beq l 2
  | .iload _ => Nat.beq l 2
  | .lload _ => Nat.beq l 2
  | .astore _ => Nat.beq l 2
  | .istore _ => Nat.beq l 2
  | .lstore _ => Nat.beq l 2
  | .bipush _ => Nat.beq l 2
  | .ldc _ => Nat.beq l 2
  | .newarray _ => Nat.beq l 2
  | .sipush _ => Nat.beq l 3
  | .ldc_w _ => Nat.beq l 3
  | .ldc2_w _ => Nat.beq l 3
  | .iinc _ _ => Nat.beq l 3
  | .goto _ => Nat.beq l 3
  | .ifCond _ _ => Nat.beq l 3
  | .if_icmp _ _ => Nat.beq l 3
  | .getfield _ => Nat.beq l 3
  | .putfield _ => Nat.beq l 3
  | .new _ => Nat.beq l 3
  | .anewarray _ => Nat.beq l 3
  | .invokevirtual _ => Nat.beq l 3
  | .invokestatic _ => Nat.beq l 3
  | .invokespecial _ => Nat.beq l 3
  | _ => Nat.beq l 1
def bi_kok (j : Nat) (i : Instr) : Bool := match i with
  | .ldc k => (match bi_lq (bi_mi j).1 k with
    | some (.int _) => true
    | some (.ref _) => true
    | _ => false)
  | .ldc_w k => (match bi_lq (bi_mi j).1 k with
    | some (.int _) => true
    | _ => false)
  | .ldc2_w k => (match bi_lq (bi_mi j).1 k with
    | some (.long _) => true
    | _ => false)
  | _ => true
def bi_nt (j : Nat) : Bool := !([124, 125, 127, 128, 129, 130, 131, 132, 133, 134, 135, 136, 137, 138, 140, 141, 142, 143, 144, 146, 147, 148, 149, 153, 154, 155, 156, 157, 158, 159, 271, 272, 273, 274, 275, 276, 277, 278, 279, 280, 281, 282, 283, 284, 285, 286, 287, 288, 289, 290, 291, 292, 293, 294].any (fun z => Nat.beq z j))
/-- a method that never throws has no throw and calls none that may; constructors and nest mates' methods never do; calls of methods with a table are the law's -/
def bi_nok (j : Nat) (i : Instr) : Bool := match i with
  | .new k => (match bi_lc (bi_mi j).1 k with
    | some c => Nat.blt c 13 || !(bi_nt j)
    | none => true)
  | .invokevirtual k => (match bi_lm (bi_mi j).1 k with
    | some (q, j') => Nat.blt 5 q || bi_nt j' || !(bi_nt j)
    | none => true)
  | .invokestatic k => (match bi_lm (bi_mi j).1 k with
    | some (q, j') => Nat.blt 5 q || (bi_nt j' || !(bi_nt j) && !(Nat.beq q 3)) && (!(Nat.beq q 5) || Nat.beq j 294)
    | none => true)
  | .invokespecial k => (match bi_lm (bi_mi j).1 k with
    | some (q, j') => Nat.blt 5 q || bi_nt j'
    | none => true)
  | _ => true
def bi_lnq (j : Nat) (f : Nat → Option (Instr × Nat)) (pc : Nat) : Bool := match f pc with
  | none => true
  | some (i, l) => bi_ilk i l && bi_kok j i && bi_nok j i
theorem bi_lgen {j n : Nat} {f : Nat → Option (Instr × Nat)} (h1 : bi_ln j = n) (h2 : bi_fe0 j = f) (hk : (List.range n).all (fun pc => bi_lnq j f pc) = true) : ∀ pc i l, bi_fe j pc = some (i, l) → (bi_ilk i l && bi_kok j i && bi_nok j i) = true := by
  intro pc i l h
  unfold bi_fe at h
  rw [h1, h2] at h
  cases hb : (Nat.blt j 295 && Nat.blt pc n) with
  | false => rw [hb] at h; cases h
  | true =>
    rw [hb] at h
    simp only [Bool.and_eq_true, Nat.blt_eq] at hb
    have := List.all_eq_true.mp hk pc (List.mem_range.mpr hb.2)
    unfold bi_lnq at this
    have h' : f pc = some (i, l) := h
    rw [h'] at this
    exact this
theorem bi_lp0 : ∀ pc i l, bi_fe 0 pc = some (i, l) → (bi_ilk i l && bi_kok 0 i && bi_nok 0 i) = true := bi_lgen (f := bi_c0) (n := 76) rfl rfl (by decide +kernel)
theorem bi_lp1 : ∀ pc i l, bi_fe 1 pc = some (i, l) → (bi_ilk i l && bi_kok 1 i && bi_nok 1 i) = true := bi_lgen (f := bi_c1) (n := 38) rfl rfl (by decide +kernel)
theorem bi_lp2 : ∀ pc i l, bi_fe 2 pc = some (i, l) → (bi_ilk i l && bi_kok 2 i && bi_nok 2 i) = true := bi_lgen (f := bi_c2) (n := 26) rfl rfl (by decide +kernel)
theorem bi_lp3 : ∀ pc i l, bi_fe 3 pc = some (i, l) → (bi_ilk i l && bi_kok 3 i && bi_nok 3 i) = true := bi_lgen (f := bi_c3) (n := 40) rfl rfl (by decide +kernel)
theorem bi_lp4 : ∀ pc i l, bi_fe 4 pc = some (i, l) → (bi_ilk i l && bi_kok 4 i && bi_nok 4 i) = true := bi_lgen (f := bi_c4) (n := 78) rfl rfl (by decide +kernel)
theorem bi_lp5 : ∀ pc i l, bi_fe 5 pc = some (i, l) → (bi_ilk i l && bi_kok 5 i && bi_nok 5 i) = true := bi_lgen (f := bi_c5) (n := 84) rfl rfl (by decide +kernel)
theorem bi_lp6 : ∀ pc i l, bi_fe 6 pc = some (i, l) → (bi_ilk i l && bi_kok 6 i && bi_nok 6 i) = true := bi_lgen (f := bi_c6) (n := 114) rfl rfl (by decide +kernel)
theorem bi_lp7 : ∀ pc i l, bi_fe 7 pc = some (i, l) → (bi_ilk i l && bi_kok 7 i && bi_nok 7 i) = true := bi_lgen (f := bi_c7) (n := 80) rfl rfl (by decide +kernel)
theorem bi_lp8 : ∀ pc i l, bi_fe 8 pc = some (i, l) → (bi_ilk i l && bi_kok 8 i && bi_nok 8 i) = true := bi_lgen (f := bi_c8) (n := 37) rfl rfl (by decide +kernel)
theorem bi_lp9 : ∀ pc i l, bi_fe 9 pc = some (i, l) → (bi_ilk i l && bi_kok 9 i && bi_nok 9 i) = true := bi_lgen (f := bi_c9) (n := 115) rfl rfl (by decide +kernel)
theorem bi_lp10 : ∀ pc i l, bi_fe 10 pc = some (i, l) → (bi_ilk i l && bi_kok 10 i && bi_nok 10 i) = true := bi_lgen (f := bi_c10) (n := 51) rfl rfl (by decide +kernel)
theorem bi_lp11 : ∀ pc i l, bi_fe 11 pc = some (i, l) → (bi_ilk i l && bi_kok 11 i && bi_nok 11 i) = true := bi_lgen (f := bi_c11) (n := 49) rfl rfl (by decide +kernel)
theorem bi_lp12 : ∀ pc i l, bi_fe 12 pc = some (i, l) → (bi_ilk i l && bi_kok 12 i && bi_nok 12 i) = true := bi_lgen (f := bi_c12) (n := 19) rfl rfl (by decide +kernel)
theorem bi_lp13 : ∀ pc i l, bi_fe 13 pc = some (i, l) → (bi_ilk i l && bi_kok 13 i && bi_nok 13 i) = true := bi_lgen (f := bi_c13) (n := 45) rfl rfl (by decide +kernel)
theorem bi_lp14 : ∀ pc i l, bi_fe 14 pc = some (i, l) → (bi_ilk i l && bi_kok 14 i && bi_nok 14 i) = true := bi_lgen (f := bi_c14) (n := 92) rfl rfl (by decide +kernel)
theorem bi_lp15 : ∀ pc i l, bi_fe 15 pc = some (i, l) → (bi_ilk i l && bi_kok 15 i && bi_nok 15 i) = true := bi_lgen (f := bi_c15) (n := 38) rfl rfl (by decide +kernel)
theorem bi_lp16 : ∀ pc i l, bi_fe 16 pc = some (i, l) → (bi_ilk i l && bi_kok 16 i && bi_nok 16 i) = true := bi_lgen (f := bi_c16) (n := 84) rfl rfl (by decide +kernel)
theorem bi_lp17 : ∀ pc i l, bi_fe 17 pc = some (i, l) → (bi_ilk i l && bi_kok 17 i && bi_nok 17 i) = true := bi_lgen (f := bi_c17) (n := 52) rfl rfl (by decide +kernel)
theorem bi_lp18 : ∀ pc i l, bi_fe 18 pc = some (i, l) → (bi_ilk i l && bi_kok 18 i && bi_nok 18 i) = true := bi_lgen (f := bi_c18) (n := 60) rfl rfl (by decide +kernel)
theorem bi_lp19 : ∀ pc i l, bi_fe 19 pc = some (i, l) → (bi_ilk i l && bi_kok 19 i && bi_nok 19 i) = true := bi_lgen (f := bi_c19) (n := 108) rfl rfl (by decide +kernel)
theorem bi_lp20 : ∀ pc i l, bi_fe 20 pc = some (i, l) → (bi_ilk i l && bi_kok 20 i && bi_nok 20 i) = true := bi_lgen (f := bi_c20) (n := 130) rfl rfl (by decide +kernel)
theorem bi_lp21 : ∀ pc i l, bi_fe 21 pc = some (i, l) → (bi_ilk i l && bi_kok 21 i && bi_nok 21 i) = true := bi_lgen (f := bi_c21) (n := 38) rfl rfl (by decide +kernel)
theorem bi_lp22 : ∀ pc i l, bi_fe 22 pc = some (i, l) → (bi_ilk i l && bi_kok 22 i && bi_nok 22 i) = true := bi_lgen (f := bi_c22) (n := 117) rfl rfl (by decide +kernel)
theorem bi_lp23 : ∀ pc i l, bi_fe 23 pc = some (i, l) → (bi_ilk i l && bi_kok 23 i && bi_nok 23 i) = true := bi_lgen (f := bi_c23) (n := 38) rfl rfl (by decide +kernel)
theorem bi_lp24 : ∀ pc i l, bi_fe 24 pc = some (i, l) → (bi_ilk i l && bi_kok 24 i && bi_nok 24 i) = true := bi_lgen (f := bi_c24) (n := 38) rfl rfl (by decide +kernel)
theorem bi_lp25 : ∀ pc i l, bi_fe 25 pc = some (i, l) → (bi_ilk i l && bi_kok 25 i && bi_nok 25 i) = true := bi_lgen (f := bi_c25) (n := 61) rfl rfl (by decide +kernel)
theorem bi_lp26 : ∀ pc i l, bi_fe 26 pc = some (i, l) → (bi_ilk i l && bi_kok 26 i && bi_nok 26 i) = true := bi_lgen (f := bi_c26) (n := 30) rfl rfl (by decide +kernel)
theorem bi_lp27 : ∀ pc i l, bi_fe 27 pc = some (i, l) → (bi_ilk i l && bi_kok 27 i && bi_nok 27 i) = true := bi_lgen (f := bi_c27) (n := 29) rfl rfl (by decide +kernel)
theorem bi_lp28 : ∀ pc i l, bi_fe 28 pc = some (i, l) → (bi_ilk i l && bi_kok 28 i && bi_nok 28 i) = true := bi_lgen (f := bi_c28) (n := 109) rfl rfl (by decide +kernel)
theorem bi_lp29 : ∀ pc i l, bi_fe 29 pc = some (i, l) → (bi_ilk i l && bi_kok 29 i && bi_nok 29 i) = true := bi_lgen (f := bi_c29) (n := 113) rfl rfl (by decide +kernel)
theorem bi_lp30 : ∀ pc i l, bi_fe 30 pc = some (i, l) → (bi_ilk i l && bi_kok 30 i && bi_nok 30 i) = true := bi_lgen (f := bi_c30) (n := 44) rfl rfl (by decide +kernel)
theorem bi_lp31 : ∀ pc i l, bi_fe 31 pc = some (i, l) → (bi_ilk i l && bi_kok 31 i && bi_nok 31 i) = true := bi_lgen (f := bi_c31) (n := 25) rfl rfl (by decide +kernel)
theorem bi_lp32 : ∀ pc i l, bi_fe 32 pc = some (i, l) → (bi_ilk i l && bi_kok 32 i && bi_nok 32 i) = true := bi_lgen (f := bi_c32) (n := 52) rfl rfl (by decide +kernel)
theorem bi_lp33 : ∀ pc i l, bi_fe 33 pc = some (i, l) → (bi_ilk i l && bi_kok 33 i && bi_nok 33 i) = true := bi_lgen (f := bi_c33) (n := 52) rfl rfl (by decide +kernel)
theorem bi_lp34 : ∀ pc i l, bi_fe 34 pc = some (i, l) → (bi_ilk i l && bi_kok 34 i && bi_nok 34 i) = true := bi_lgen (f := bi_c34) (n := 223) rfl rfl (by decide +kernel)
theorem bi_lp35 : ∀ pc i l, bi_fe 35 pc = some (i, l) → (bi_ilk i l && bi_kok 35 i && bi_nok 35 i) = true := bi_lgen (f := bi_c35) (n := 60) rfl rfl (by decide +kernel)
theorem bi_lp36 : ∀ pc i l, bi_fe 36 pc = some (i, l) → (bi_ilk i l && bi_kok 36 i && bi_nok 36 i) = true := bi_lgen (f := bi_c36) (n := 37) rfl rfl (by decide +kernel)
theorem bi_lp37 : ∀ pc i l, bi_fe 37 pc = some (i, l) → (bi_ilk i l && bi_kok 37 i && bi_nok 37 i) = true := bi_lgen (f := bi_c37) (n := 136) rfl rfl (by decide +kernel)
theorem bi_lp38 : ∀ pc i l, bi_fe 38 pc = some (i, l) → (bi_ilk i l && bi_kok 38 i && bi_nok 38 i) = true := bi_lgen (f := bi_c38) (n := 41) rfl rfl (by decide +kernel)
theorem bi_lp39 : ∀ pc i l, bi_fe 39 pc = some (i, l) → (bi_ilk i l && bi_kok 39 i && bi_nok 39 i) = true := bi_lgen (f := bi_c39) (n := 99) rfl rfl (by decide +kernel)
theorem bi_lp40 : ∀ pc i l, bi_fe 40 pc = some (i, l) → (bi_ilk i l && bi_kok 40 i && bi_nok 40 i) = true := bi_lgen (f := bi_c40) (n := 142) rfl rfl (by decide +kernel)
theorem bi_lp41 : ∀ pc i l, bi_fe 41 pc = some (i, l) → (bi_ilk i l && bi_kok 41 i && bi_nok 41 i) = true := bi_lgen (f := bi_c41) (n := 33) rfl rfl (by decide +kernel)
theorem bi_lp42 : ∀ pc i l, bi_fe 42 pc = some (i, l) → (bi_ilk i l && bi_kok 42 i && bi_nok 42 i) = true := bi_lgen (f := bi_c42) (n := 133) rfl rfl (by decide +kernel)
theorem bi_lp43 : ∀ pc i l, bi_fe 43 pc = some (i, l) → (bi_ilk i l && bi_kok 43 i && bi_nok 43 i) = true := bi_lgen (f := bi_c43) (n := 90) rfl rfl (by decide +kernel)
theorem bi_lp44 : ∀ pc i l, bi_fe 44 pc = some (i, l) → (bi_ilk i l && bi_kok 44 i && bi_nok 44 i) = true := bi_lgen (f := bi_c44) (n := 56) rfl rfl (by decide +kernel)
theorem bi_lp45 : ∀ pc i l, bi_fe 45 pc = some (i, l) → (bi_ilk i l && bi_kok 45 i && bi_nok 45 i) = true := bi_lgen (f := bi_c45) (n := 40) rfl rfl (by decide +kernel)
theorem bi_lp46 : ∀ pc i l, bi_fe 46 pc = some (i, l) → (bi_ilk i l && bi_kok 46 i && bi_nok 46 i) = true := bi_lgen (f := bi_c46) (n := 122) rfl rfl (by decide +kernel)
theorem bi_lp47 : ∀ pc i l, bi_fe 47 pc = some (i, l) → (bi_ilk i l && bi_kok 47 i && bi_nok 47 i) = true := bi_lgen (f := bi_c47) (n := 166) rfl rfl (by decide +kernel)
theorem bi_lp48 : ∀ pc i l, bi_fe 48 pc = some (i, l) → (bi_ilk i l && bi_kok 48 i && bi_nok 48 i) = true := bi_lgen (f := bi_c48) (n := 15) rfl rfl (by decide +kernel)
theorem bi_lp49 : ∀ pc i l, bi_fe 49 pc = some (i, l) → (bi_ilk i l && bi_kok 49 i && bi_nok 49 i) = true := bi_lgen (f := bi_c49) (n := 16) rfl rfl (by decide +kernel)
theorem bi_lp50 : ∀ pc i l, bi_fe 50 pc = some (i, l) → (bi_ilk i l && bi_kok 50 i && bi_nok 50 i) = true := bi_lgen (f := bi_c50) (n := 44) rfl rfl (by decide +kernel)
theorem bi_lp51 : ∀ pc i l, bi_fe 51 pc = some (i, l) → (bi_ilk i l && bi_kok 51 i && bi_nok 51 i) = true := bi_lgen (f := bi_c51) (n := 40) rfl rfl (by decide +kernel)
theorem bi_lp52 : ∀ pc i l, bi_fe 52 pc = some (i, l) → (bi_ilk i l && bi_kok 52 i && bi_nok 52 i) = true := bi_lgen (f := bi_c52) (n := 97) rfl rfl (by decide +kernel)
theorem bi_lp53 : ∀ pc i l, bi_fe 53 pc = some (i, l) → (bi_ilk i l && bi_kok 53 i && bi_nok 53 i) = true := bi_lgen (f := bi_c53) (n := 66) rfl rfl (by decide +kernel)
theorem bi_lp54 : ∀ pc i l, bi_fe 54 pc = some (i, l) → (bi_ilk i l && bi_kok 54 i && bi_nok 54 i) = true := bi_lgen (f := bi_c54) (n := 94) rfl rfl (by decide +kernel)
theorem bi_lp55 : ∀ pc i l, bi_fe 55 pc = some (i, l) → (bi_ilk i l && bi_kok 55 i && bi_nok 55 i) = true := bi_lgen (f := bi_c55) (n := 76) rfl rfl (by decide +kernel)
theorem bi_lp56 : ∀ pc i l, bi_fe 56 pc = some (i, l) → (bi_ilk i l && bi_kok 56 i && bi_nok 56 i) = true := bi_lgen (f := bi_c56) (n := 97) rfl rfl (by decide +kernel)
theorem bi_lp57 : ∀ pc i l, bi_fe 57 pc = some (i, l) → (bi_ilk i l && bi_kok 57 i && bi_nok 57 i) = true := bi_lgen (f := bi_c57) (n := 127) rfl rfl (by decide +kernel)
theorem bi_lp58 : ∀ pc i l, bi_fe 58 pc = some (i, l) → (bi_ilk i l && bi_kok 58 i && bi_nok 58 i) = true := bi_lgen (f := bi_c58) (n := 75) rfl rfl (by decide +kernel)
theorem bi_lp59 : ∀ pc i l, bi_fe 59 pc = some (i, l) → (bi_ilk i l && bi_kok 59 i && bi_nok 59 i) = true := bi_lgen (f := bi_c59) (n := 136) rfl rfl (by decide +kernel)
theorem bi_lp60 : ∀ pc i l, bi_fe 60 pc = some (i, l) → (bi_ilk i l && bi_kok 60 i && bi_nok 60 i) = true := bi_lgen (f := bi_c60) (n := 63) rfl rfl (by decide +kernel)
theorem bi_lp61 : ∀ pc i l, bi_fe 61 pc = some (i, l) → (bi_ilk i l && bi_kok 61 i && bi_nok 61 i) = true := bi_lgen (f := bi_c61) (n := 40) rfl rfl (by decide +kernel)
theorem bi_lp62 : ∀ pc i l, bi_fe 62 pc = some (i, l) → (bi_ilk i l && bi_kok 62 i && bi_nok 62 i) = true := bi_lgen (f := bi_c62) (n := 33) rfl rfl (by decide +kernel)
theorem bi_lp63 : ∀ pc i l, bi_fe 63 pc = some (i, l) → (bi_ilk i l && bi_kok 63 i && bi_nok 63 i) = true := bi_lgen (f := bi_c63) (n := 16) rfl rfl (by decide +kernel)
theorem bi_lp64 : ∀ pc i l, bi_fe 64 pc = some (i, l) → (bi_ilk i l && bi_kok 64 i && bi_nok 64 i) = true := bi_lgen (f := bi_c64) (n := 35) rfl rfl (by decide +kernel)
theorem bi_lp65 : ∀ pc i l, bi_fe 65 pc = some (i, l) → (bi_ilk i l && bi_kok 65 i && bi_nok 65 i) = true := bi_lgen (f := bi_c65) (n := 76) rfl rfl (by decide +kernel)
theorem bi_lp66 : ∀ pc i l, bi_fe 66 pc = some (i, l) → (bi_ilk i l && bi_kok 66 i && bi_nok 66 i) = true := bi_lgen (f := bi_c66) (n := 18) rfl rfl (by decide +kernel)
theorem bi_lp67 : ∀ pc i l, bi_fe 67 pc = some (i, l) → (bi_ilk i l && bi_kok 67 i && bi_nok 67 i) = true := bi_lgen (f := bi_c67) (n := 25) rfl rfl (by decide +kernel)
theorem bi_lp68 : ∀ pc i l, bi_fe 68 pc = some (i, l) → (bi_ilk i l && bi_kok 68 i && bi_nok 68 i) = true := bi_lgen (f := bi_c68) (n := 19) rfl rfl (by decide +kernel)
theorem bi_lp69 : ∀ pc i l, bi_fe 69 pc = some (i, l) → (bi_ilk i l && bi_kok 69 i && bi_nok 69 i) = true := bi_lgen (f := bi_c69) (n := 26) rfl rfl (by decide +kernel)
theorem bi_lp70 : ∀ pc i l, bi_fe 70 pc = some (i, l) → (bi_ilk i l && bi_kok 70 i && bi_nok 70 i) = true := bi_lgen (f := bi_c70) (n := 46) rfl rfl (by decide +kernel)
theorem bi_lp71 : ∀ pc i l, bi_fe 71 pc = some (i, l) → (bi_ilk i l && bi_kok 71 i && bi_nok 71 i) = true := bi_lgen (f := bi_c71) (n := 41) rfl rfl (by decide +kernel)
theorem bi_lp72 : ∀ pc i l, bi_fe 72 pc = some (i, l) → (bi_ilk i l && bi_kok 72 i && bi_nok 72 i) = true := bi_lgen (f := bi_c72) (n := 117) rfl rfl (by decide +kernel)
theorem bi_lp73 : ∀ pc i l, bi_fe 73 pc = some (i, l) → (bi_ilk i l && bi_kok 73 i && bi_nok 73 i) = true := bi_lgen (f := bi_c73) (n := 25) rfl rfl (by decide +kernel)
theorem bi_lp74 : ∀ pc i l, bi_fe 74 pc = some (i, l) → (bi_ilk i l && bi_kok 74 i && bi_nok 74 i) = true := bi_lgen (f := bi_c74) (n := 24) rfl rfl (by decide +kernel)
theorem bi_lp75 : ∀ pc i l, bi_fe 75 pc = some (i, l) → (bi_ilk i l && bi_kok 75 i && bi_nok 75 i) = true := bi_lgen (f := bi_c75) (n := 21) rfl rfl (by decide +kernel)
theorem bi_lp76 : ∀ pc i l, bi_fe 76 pc = some (i, l) → (bi_ilk i l && bi_kok 76 i && bi_nok 76 i) = true := bi_lgen (f := bi_c76) (n := 74) rfl rfl (by decide +kernel)
theorem bi_lp77 : ∀ pc i l, bi_fe 77 pc = some (i, l) → (bi_ilk i l && bi_kok 77 i && bi_nok 77 i) = true := bi_lgen (f := bi_c77) (n := 53) rfl rfl (by decide +kernel)
theorem bi_lp78 : ∀ pc i l, bi_fe 78 pc = some (i, l) → (bi_ilk i l && bi_kok 78 i && bi_nok 78 i) = true := bi_lgen (f := bi_c78) (n := 39) rfl rfl (by decide +kernel)
theorem bi_lp79 : ∀ pc i l, bi_fe 79 pc = some (i, l) → (bi_ilk i l && bi_kok 79 i && bi_nok 79 i) = true := bi_lgen (f := bi_c79) (n := 72) rfl rfl (by decide +kernel)
theorem bi_lp80 : ∀ pc i l, bi_fe 80 pc = some (i, l) → (bi_ilk i l && bi_kok 80 i && bi_nok 80 i) = true := bi_lgen (f := bi_c80) (n := 27) rfl rfl (by decide +kernel)
theorem bi_lp81 : ∀ pc i l, bi_fe 81 pc = some (i, l) → (bi_ilk i l && bi_kok 81 i && bi_nok 81 i) = true := bi_lgen (f := bi_c81) (n := 20) rfl rfl (by decide +kernel)
theorem bi_lp82 : ∀ pc i l, bi_fe 82 pc = some (i, l) → (bi_ilk i l && bi_kok 82 i && bi_nok 82 i) = true := bi_lgen (f := bi_c82) (n := 168) rfl rfl (by decide +kernel)
theorem bi_lp83 : ∀ pc i l, bi_fe 83 pc = some (i, l) → (bi_ilk i l && bi_kok 83 i && bi_nok 83 i) = true := bi_lgen (f := bi_c83) (n := 74) rfl rfl (by decide +kernel)
theorem bi_lp84 : ∀ pc i l, bi_fe 84 pc = some (i, l) → (bi_ilk i l && bi_kok 84 i && bi_nok 84 i) = true := bi_lgen (f := bi_c84) (n := 66) rfl rfl (by decide +kernel)
theorem bi_lp85 : ∀ pc i l, bi_fe 85 pc = some (i, l) → (bi_ilk i l && bi_kok 85 i && bi_nok 85 i) = true := bi_lgen (f := bi_c85) (n := 11) rfl rfl (by decide +kernel)
theorem bi_lp86 : ∀ pc i l, bi_fe 86 pc = some (i, l) → (bi_ilk i l && bi_kok 86 i && bi_nok 86 i) = true := bi_lgen (f := bi_c86) (n := 5) rfl rfl (by decide +kernel)
theorem bi_lp87 : ∀ pc i l, bi_fe 87 pc = some (i, l) → (bi_ilk i l && bi_kok 87 i && bi_nok 87 i) = true := bi_lgen (f := bi_c87) (n := 41) rfl rfl (by decide +kernel)
theorem bi_lp88 : ∀ pc i l, bi_fe 88 pc = some (i, l) → (bi_ilk i l && bi_kok 88 i && bi_nok 88 i) = true := bi_lgen (f := bi_c88) (n := 24) rfl rfl (by decide +kernel)
theorem bi_lp89 : ∀ pc i l, bi_fe 89 pc = some (i, l) → (bi_ilk i l && bi_kok 89 i && bi_nok 89 i) = true := bi_lgen (f := bi_c89) (n := 47) rfl rfl (by decide +kernel)
theorem bi_lp90 : ∀ pc i l, bi_fe 90 pc = some (i, l) → (bi_ilk i l && bi_kok 90 i && bi_nok 90 i) = true := bi_lgen (f := bi_c90) (n := 74) rfl rfl (by decide +kernel)
theorem bi_lp91 : ∀ pc i l, bi_fe 91 pc = some (i, l) → (bi_ilk i l && bi_kok 91 i && bi_nok 91 i) = true := bi_lgen (f := bi_c91) (n := 14) rfl rfl (by decide +kernel)
theorem bi_lp92 : ∀ pc i l, bi_fe 92 pc = some (i, l) → (bi_ilk i l && bi_kok 92 i && bi_nok 92 i) = true := bi_lgen (f := bi_c92) (n := 47) rfl rfl (by decide +kernel)
theorem bi_lp93 : ∀ pc i l, bi_fe 93 pc = some (i, l) → (bi_ilk i l && bi_kok 93 i && bi_nok 93 i) = true := bi_lgen (f := bi_c93) (n := 42) rfl rfl (by decide +kernel)
theorem bi_lp94 : ∀ pc i l, bi_fe 94 pc = some (i, l) → (bi_ilk i l && bi_kok 94 i && bi_nok 94 i) = true := bi_lgen (f := bi_c94) (n := 280) rfl rfl (by decide +kernel)
theorem bi_lp95 : ∀ pc i l, bi_fe 95 pc = some (i, l) → (bi_ilk i l && bi_kok 95 i && bi_nok 95 i) = true := bi_lgen (f := bi_c95) (n := 75) rfl rfl (by decide +kernel)
theorem bi_lp96 : ∀ pc i l, bi_fe 96 pc = some (i, l) → (bi_ilk i l && bi_kok 96 i && bi_nok 96 i) = true := bi_lgen (f := bi_c96) (n := 65) rfl rfl (by decide +kernel)
theorem bi_lp97 : ∀ pc i l, bi_fe 97 pc = some (i, l) → (bi_ilk i l && bi_kok 97 i && bi_nok 97 i) = true := bi_lgen (f := bi_c97) (n := 27) rfl rfl (by decide +kernel)
theorem bi_lp98 : ∀ pc i l, bi_fe 98 pc = some (i, l) → (bi_ilk i l && bi_kok 98 i && bi_nok 98 i) = true := bi_lgen (f := bi_c98) (n := 47) rfl rfl (by decide +kernel)
theorem bi_lp99 : ∀ pc i l, bi_fe 99 pc = some (i, l) → (bi_ilk i l && bi_kok 99 i && bi_nok 99 i) = true := bi_lgen (f := bi_c99) (n := 15) rfl rfl (by decide +kernel)
theorem bi_lp100 : ∀ pc i l, bi_fe 100 pc = some (i, l) → (bi_ilk i l && bi_kok 100 i && bi_nok 100 i) = true := bi_lgen (f := bi_c100) (n := 20) rfl rfl (by decide +kernel)
theorem bi_lp101 : ∀ pc i l, bi_fe 101 pc = some (i, l) → (bi_ilk i l && bi_kok 101 i && bi_nok 101 i) = true := bi_lgen (f := bi_c101) (n := 49) rfl rfl (by decide +kernel)
theorem bi_lp102 : ∀ pc i l, bi_fe 102 pc = some (i, l) → (bi_ilk i l && bi_kok 102 i && bi_nok 102 i) = true := bi_lgen (f := bi_c102) (n := 36) rfl rfl (by decide +kernel)
theorem bi_lp103 : ∀ pc i l, bi_fe 103 pc = some (i, l) → (bi_ilk i l && bi_kok 103 i && bi_nok 103 i) = true := bi_lgen (f := bi_c103) (n := 105) rfl rfl (by decide +kernel)
theorem bi_lp104 : ∀ pc i l, bi_fe 104 pc = some (i, l) → (bi_ilk i l && bi_kok 104 i && bi_nok 104 i) = true := bi_lgen (f := bi_c104) (n := 239) rfl rfl (by decide +kernel)
theorem bi_lp105 : ∀ pc i l, bi_fe 105 pc = some (i, l) → (bi_ilk i l && bi_kok 105 i && bi_nok 105 i) = true := bi_lgen (f := bi_c105) (n := 72) rfl rfl (by decide +kernel)
theorem bi_lp106 : ∀ pc i l, bi_fe 106 pc = some (i, l) → (bi_ilk i l && bi_kok 106 i && bi_nok 106 i) = true := bi_lgen (f := bi_c106) (n := 115) rfl rfl (by decide +kernel)
theorem bi_lp107 : ∀ pc i l, bi_fe 107 pc = some (i, l) → (bi_ilk i l && bi_kok 107 i && bi_nok 107 i) = true := bi_lgen (f := bi_c107) (n := 138) rfl rfl (by decide +kernel)
theorem bi_lp108 : ∀ pc i l, bi_fe 108 pc = some (i, l) → (bi_ilk i l && bi_kok 108 i && bi_nok 108 i) = true := bi_lgen (f := bi_c108) (n := 190) rfl rfl (by decide +kernel)
theorem bi_lp109 : ∀ pc i l, bi_fe 109 pc = some (i, l) → (bi_ilk i l && bi_kok 109 i && bi_nok 109 i) = true := bi_lgen (f := bi_c109) (n := 149) rfl rfl (by decide +kernel)
theorem bi_lp110 : ∀ pc i l, bi_fe 110 pc = some (i, l) → (bi_ilk i l && bi_kok 110 i && bi_nok 110 i) = true := bi_lgen (f := bi_c110) (n := 74) rfl rfl (by decide +kernel)
theorem bi_lp111 : ∀ pc i l, bi_fe 111 pc = some (i, l) → (bi_ilk i l && bi_kok 111 i && bi_nok 111 i) = true := bi_lgen (f := bi_c111) (n := 187) rfl rfl (by decide +kernel)
theorem bi_lp112 : ∀ pc i l, bi_fe 112 pc = some (i, l) → (bi_ilk i l && bi_kok 112 i && bi_nok 112 i) = true := bi_lgen (f := bi_c112) (n := 106) rfl rfl (by decide +kernel)
theorem bi_lp113 : ∀ pc i l, bi_fe 113 pc = some (i, l) → (bi_ilk i l && bi_kok 113 i && bi_nok 113 i) = true := bi_lgen (f := bi_c113) (n := 72) rfl rfl (by decide +kernel)
theorem bi_lp114 : ∀ pc i l, bi_fe 114 pc = some (i, l) → (bi_ilk i l && bi_kok 114 i && bi_nok 114 i) = true := bi_lgen (f := bi_c114) (n := 10) rfl rfl (by decide +kernel)
theorem bi_lp115 : ∀ pc i l, bi_fe 115 pc = some (i, l) → (bi_ilk i l && bi_kok 115 i && bi_nok 115 i) = true := bi_lgen (f := bi_c115) (n := 18) rfl rfl (by decide +kernel)
theorem bi_lp116 : ∀ pc i l, bi_fe 116 pc = some (i, l) → (bi_ilk i l && bi_kok 116 i && bi_nok 116 i) = true := bi_lgen (f := bi_c116) (n := 108) rfl rfl (by decide +kernel)
theorem bi_lp117 : ∀ pc i l, bi_fe 117 pc = some (i, l) → (bi_ilk i l && bi_kok 117 i && bi_nok 117 i) = true := bi_lgen (f := bi_c117) (n := 72) rfl rfl (by decide +kernel)
theorem bi_lp118 : ∀ pc i l, bi_fe 118 pc = some (i, l) → (bi_ilk i l && bi_kok 118 i && bi_nok 118 i) = true := bi_lgen (f := bi_c118) (n := 25) rfl rfl (by decide +kernel)
theorem bi_lp119 : ∀ pc i l, bi_fe 119 pc = some (i, l) → (bi_ilk i l && bi_kok 119 i && bi_nok 119 i) = true := bi_lgen (f := bi_c119) (n := 66) rfl rfl (by decide +kernel)
theorem bi_lp120 : ∀ pc i l, bi_fe 120 pc = some (i, l) → (bi_ilk i l && bi_kok 120 i && bi_nok 120 i) = true := bi_lgen (f := bi_c120) (n := 156) rfl rfl (by decide +kernel)
theorem bi_lp121 : ∀ pc i l, bi_fe 121 pc = some (i, l) → (bi_ilk i l && bi_kok 121 i && bi_nok 121 i) = true := bi_lgen (f := bi_c121) (n := 37) rfl rfl (by decide +kernel)
theorem bi_lp122 : ∀ pc i l, bi_fe 122 pc = some (i, l) → (bi_ilk i l && bi_kok 122 i && bi_nok 122 i) = true := bi_lgen (f := bi_c122) (n := 194) rfl rfl (by decide +kernel)
theorem bi_lp123 : ∀ pc i l, bi_fe 123 pc = some (i, l) → (bi_ilk i l && bi_kok 123 i && bi_nok 123 i) = true := bi_lgen (f := bi_c123) (n := 68) rfl rfl (by decide +kernel)
theorem bi_lp124 : ∀ pc i l, bi_fe 124 pc = some (i, l) → (bi_ilk i l && bi_kok 124 i && bi_nok 124 i) = true := bi_lgen (f := bi_c124) (n := 92) rfl rfl (by decide +kernel)
theorem bi_lp125 : ∀ pc i l, bi_fe 125 pc = some (i, l) → (bi_ilk i l && bi_kok 125 i && bi_nok 125 i) = true := bi_lgen (f := bi_c125) (n := 113) rfl rfl (by decide +kernel)
theorem bi_lp126 : ∀ pc i l, bi_fe 126 pc = some (i, l) → (bi_ilk i l && bi_kok 126 i && bi_nok 126 i) = true := bi_lgen (f := bi_c126) (n := 5) rfl rfl (by decide +kernel)
theorem bi_lp127 : ∀ pc i l, bi_fe 127 pc = some (i, l) → (bi_ilk i l && bi_kok 127 i && bi_nok 127 i) = true := bi_lgen (f := bi_c127) (n := 182) rfl rfl (by decide +kernel)
theorem bi_lp128 : ∀ pc i l, bi_fe 128 pc = some (i, l) → (bi_ilk i l && bi_kok 128 i && bi_nok 128 i) = true := bi_lgen (f := bi_c128) (n := 113) rfl rfl (by decide +kernel)
theorem bi_lp129 : ∀ pc i l, bi_fe 129 pc = some (i, l) → (bi_ilk i l && bi_kok 129 i && bi_nok 129 i) = true := bi_lgen (f := bi_c129) (n := 20) rfl rfl (by decide +kernel)
theorem bi_lp130 : ∀ pc i l, bi_fe 130 pc = some (i, l) → (bi_ilk i l && bi_kok 130 i && bi_nok 130 i) = true := bi_lgen (f := bi_c130) (n := 164) rfl rfl (by decide +kernel)
theorem bi_lp131 : ∀ pc i l, bi_fe 131 pc = some (i, l) → (bi_ilk i l && bi_kok 131 i && bi_nok 131 i) = true := bi_lgen (f := bi_c131) (n := 128) rfl rfl (by decide +kernel)
theorem bi_lp132 : ∀ pc i l, bi_fe 132 pc = some (i, l) → (bi_ilk i l && bi_kok 132 i && bi_nok 132 i) = true := bi_lgen (f := bi_c132) (n := 41) rfl rfl (by decide +kernel)
theorem bi_lp133 : ∀ pc i l, bi_fe 133 pc = some (i, l) → (bi_ilk i l && bi_kok 133 i && bi_nok 133 i) = true := bi_lgen (f := bi_c133) (n := 56) rfl rfl (by decide +kernel)
theorem bi_lp134 : ∀ pc i l, bi_fe 134 pc = some (i, l) → (bi_ilk i l && bi_kok 134 i && bi_nok 134 i) = true := bi_lgen (f := bi_c134) (n := 93) rfl rfl (by decide +kernel)
theorem bi_lp135 : ∀ pc i l, bi_fe 135 pc = some (i, l) → (bi_ilk i l && bi_kok 135 i && bi_nok 135 i) = true := bi_lgen (f := bi_c135) (n := 58) rfl rfl (by decide +kernel)
theorem bi_lp136 : ∀ pc i l, bi_fe 136 pc = some (i, l) → (bi_ilk i l && bi_kok 136 i && bi_nok 136 i) = true := bi_lgen (f := bi_c136) (n := 38) rfl rfl (by decide +kernel)
theorem bi_lp137 : ∀ pc i l, bi_fe 137 pc = some (i, l) → (bi_ilk i l && bi_kok 137 i && bi_nok 137 i) = true := bi_lgen (f := bi_c137) (n := 116) rfl rfl (by decide +kernel)
theorem bi_lp138 : ∀ pc i l, bi_fe 138 pc = some (i, l) → (bi_ilk i l && bi_kok 138 i && bi_nok 138 i) = true := bi_lgen (f := bi_c138) (n := 53) rfl rfl (by decide +kernel)
theorem bi_lp139 : ∀ pc i l, bi_fe 139 pc = some (i, l) → (bi_ilk i l && bi_kok 139 i && bi_nok 139 i) = true := bi_lgen (f := bi_c139) (n := 22) rfl rfl (by decide +kernel)
theorem bi_lp140 : ∀ pc i l, bi_fe 140 pc = some (i, l) → (bi_ilk i l && bi_kok 140 i && bi_nok 140 i) = true := bi_lgen (f := bi_c140) (n := 29) rfl rfl (by decide +kernel)
theorem bi_lp141 : ∀ pc i l, bi_fe 141 pc = some (i, l) → (bi_ilk i l && bi_kok 141 i && bi_nok 141 i) = true := bi_lgen (f := bi_c141) (n := 35) rfl rfl (by decide +kernel)
theorem bi_lp142 : ∀ pc i l, bi_fe 142 pc = some (i, l) → (bi_ilk i l && bi_kok 142 i && bi_nok 142 i) = true := bi_lgen (f := bi_c142) (n := 56) rfl rfl (by decide +kernel)
theorem bi_lp143 : ∀ pc i l, bi_fe 143 pc = some (i, l) → (bi_ilk i l && bi_kok 143 i && bi_nok 143 i) = true := bi_lgen (f := bi_c143) (n := 93) rfl rfl (by decide +kernel)
theorem bi_lp144 : ∀ pc i l, bi_fe 144 pc = some (i, l) → (bi_ilk i l && bi_kok 144 i && bi_nok 144 i) = true := bi_lgen (f := bi_c144) (n := 43) rfl rfl (by decide +kernel)
theorem bi_lp145 : ∀ pc i l, bi_fe 145 pc = some (i, l) → (bi_ilk i l && bi_kok 145 i && bi_nok 145 i) = true := bi_lgen (f := bi_c145) (n := 8) rfl rfl (by decide +kernel)
theorem bi_lp146 : ∀ pc i l, bi_fe 146 pc = some (i, l) → (bi_ilk i l && bi_kok 146 i && bi_nok 146 i) = true := bi_lgen (f := bi_c146) (n := 72) rfl rfl (by decide +kernel)
theorem bi_lp147 : ∀ pc i l, bi_fe 147 pc = some (i, l) → (bi_ilk i l && bi_kok 147 i && bi_nok 147 i) = true := bi_lgen (f := bi_c147) (n := 68) rfl rfl (by decide +kernel)
theorem bi_lp148 : ∀ pc i l, bi_fe 148 pc = some (i, l) → (bi_ilk i l && bi_kok 148 i && bi_nok 148 i) = true := bi_lgen (f := bi_c148) (n := 54) rfl rfl (by decide +kernel)
theorem bi_lp149 : ∀ pc i l, bi_fe 149 pc = some (i, l) → (bi_ilk i l && bi_kok 149 i && bi_nok 149 i) = true := bi_lgen (f := bi_c149) (n := 135) rfl rfl (by decide +kernel)
theorem bi_lp150 : ∀ pc i l, bi_fe 150 pc = some (i, l) → (bi_ilk i l && bi_kok 150 i && bi_nok 150 i) = true := bi_lgen (f := bi_c150) (n := 17) rfl rfl (by decide +kernel)
theorem bi_lp151 : ∀ pc i l, bi_fe 151 pc = some (i, l) → (bi_ilk i l && bi_kok 151 i && bi_nok 151 i) = true := bi_lgen (f := bi_c151) (n := 22) rfl rfl (by decide +kernel)
theorem bi_lp152 : ∀ pc i l, bi_fe 152 pc = some (i, l) → (bi_ilk i l && bi_kok 152 i && bi_nok 152 i) = true := bi_lgen (f := bi_c152) (n := 42) rfl rfl (by decide +kernel)
theorem bi_lp153 : ∀ pc i l, bi_fe 153 pc = some (i, l) → (bi_ilk i l && bi_kok 153 i && bi_nok 153 i) = true := bi_lgen (f := bi_c153) (n := 24) rfl rfl (by decide +kernel)
theorem bi_lp154 : ∀ pc i l, bi_fe 154 pc = some (i, l) → (bi_ilk i l && bi_kok 154 i && bi_nok 154 i) = true := bi_lgen (f := bi_c154) (n := 12) rfl rfl (by decide +kernel)
theorem bi_lp155 : ∀ pc i l, bi_fe 155 pc = some (i, l) → (bi_ilk i l && bi_kok 155 i && bi_nok 155 i) = true := bi_lgen (f := bi_c155) (n := 12) rfl rfl (by decide +kernel)
theorem bi_lp156 : ∀ pc i l, bi_fe 156 pc = some (i, l) → (bi_ilk i l && bi_kok 156 i && bi_nok 156 i) = true := bi_lgen (f := bi_c156) (n := 12) rfl rfl (by decide +kernel)
theorem bi_lp157 : ∀ pc i l, bi_fe 157 pc = some (i, l) → (bi_ilk i l && bi_kok 157 i && bi_nok 157 i) = true := bi_lgen (f := bi_c157) (n := 12) rfl rfl (by decide +kernel)
theorem bi_lp158 : ∀ pc i l, bi_fe 158 pc = some (i, l) → (bi_ilk i l && bi_kok 158 i && bi_nok 158 i) = true := bi_lgen (f := bi_c158) (n := 12) rfl rfl (by decide +kernel)
theorem bi_lp159 : ∀ pc i l, bi_fe 159 pc = some (i, l) → (bi_ilk i l && bi_kok 159 i && bi_nok 159 i) = true := bi_lgen (f := bi_c159) (n := 18) rfl rfl (by decide +kernel)
theorem bi_lp160 : ∀ pc i l, bi_fe 160 pc = some (i, l) → (bi_ilk i l && bi_kok 160 i && bi_nok 160 i) = true := bi_lgen (f := bi_c160) (n := 6) rfl rfl (by decide +kernel)
theorem bi_lp161 : ∀ pc i l, bi_fe 161 pc = some (i, l) → (bi_ilk i l && bi_kok 161 i && bi_nok 161 i) = true := bi_lgen (f := bi_c161) (n := 286) rfl rfl (by decide +kernel)
theorem bi_lp162 : ∀ pc i l, bi_fe 162 pc = some (i, l) → (bi_ilk i l && bi_kok 162 i && bi_nok 162 i) = true := bi_lgen (f := bi_c162) (n := 5) rfl rfl (by decide +kernel)
theorem bi_lp163 : ∀ pc i l, bi_fe 163 pc = some (i, l) → (bi_ilk i l && bi_kok 163 i && bi_nok 163 i) = true := bi_lgen (f := bi_c163) (n := 29) rfl rfl (by decide +kernel)
theorem bi_lp164 : ∀ pc i l, bi_fe 164 pc = some (i, l) → (bi_ilk i l && bi_kok 164 i && bi_nok 164 i) = true := bi_lgen (f := bi_c164) (n := 16) rfl rfl (by decide +kernel)
theorem bi_lp165 : ∀ pc i l, bi_fe 165 pc = some (i, l) → (bi_ilk i l && bi_kok 165 i && bi_nok 165 i) = true := bi_lgen (f := bi_c165) (n := 21) rfl rfl (by decide +kernel)
theorem bi_lp166 : ∀ pc i l, bi_fe 166 pc = some (i, l) → (bi_ilk i l && bi_kok 166 i && bi_nok 166 i) = true := bi_lgen (f := bi_c166) (n := 26) rfl rfl (by decide +kernel)
theorem bi_lp167 : ∀ pc i l, bi_fe 167 pc = some (i, l) → (bi_ilk i l && bi_kok 167 i && bi_nok 167 i) = true := bi_lgen (f := bi_c167) (n := 52) rfl rfl (by decide +kernel)
theorem bi_lp168 : ∀ pc i l, bi_fe 168 pc = some (i, l) → (bi_ilk i l && bi_kok 168 i && bi_nok 168 i) = true := bi_lgen (f := bi_c168) (n := 40) rfl rfl (by decide +kernel)
theorem bi_lp169 : ∀ pc i l, bi_fe 169 pc = some (i, l) → (bi_ilk i l && bi_kok 169 i && bi_nok 169 i) = true := bi_lgen (f := bi_c169) (n := 19) rfl rfl (by decide +kernel)
theorem bi_lp170 : ∀ pc i l, bi_fe 170 pc = some (i, l) → (bi_ilk i l && bi_kok 170 i && bi_nok 170 i) = true := bi_lgen (f := bi_c170) (n := 18) rfl rfl (by decide +kernel)
theorem bi_lp171 : ∀ pc i l, bi_fe 171 pc = some (i, l) → (bi_ilk i l && bi_kok 171 i && bi_nok 171 i) = true := bi_lgen (f := bi_c171) (n := 18) rfl rfl (by decide +kernel)
theorem bi_lp172 : ∀ pc i l, bi_fe 172 pc = some (i, l) → (bi_ilk i l && bi_kok 172 i && bi_nok 172 i) = true := bi_lgen (f := bi_c172) (n := 351) rfl rfl (by decide +kernel)
theorem bi_lp173 : ∀ pc i l, bi_fe 173 pc = some (i, l) → (bi_ilk i l && bi_kok 173 i && bi_nok 173 i) = true := bi_lgen (f := bi_c173) (n := 123) rfl rfl (by decide +kernel)
theorem bi_lp174 : ∀ pc i l, bi_fe 174 pc = some (i, l) → (bi_ilk i l && bi_kok 174 i && bi_nok 174 i) = true := bi_lgen (f := bi_c174) (n := 524) rfl rfl (by decide +kernel)
theorem bi_lp175 : ∀ pc i l, bi_fe 175 pc = some (i, l) → (bi_ilk i l && bi_kok 175 i && bi_nok 175 i) = true := bi_lgen (f := bi_c175) (n := 57) rfl rfl (by decide +kernel)
theorem bi_lp176 : ∀ pc i l, bi_fe 176 pc = some (i, l) → (bi_ilk i l && bi_kok 176 i && bi_nok 176 i) = true := bi_lgen (f := bi_c176) (n := 22) rfl rfl (by decide +kernel)
theorem bi_lp177 : ∀ pc i l, bi_fe 177 pc = some (i, l) → (bi_ilk i l && bi_kok 177 i && bi_nok 177 i) = true := bi_lgen (f := bi_c177) (n := 13) rfl rfl (by decide +kernel)
theorem bi_lp178 : ∀ pc i l, bi_fe 178 pc = some (i, l) → (bi_ilk i l && bi_kok 178 i && bi_nok 178 i) = true := bi_lgen (f := bi_c178) (n := 22) rfl rfl (by decide +kernel)
theorem bi_lp179 : ∀ pc i l, bi_fe 179 pc = some (i, l) → (bi_ilk i l && bi_kok 179 i && bi_nok 179 i) = true := bi_lgen (f := bi_c179) (n := 25) rfl rfl (by decide +kernel)
theorem bi_lp180 : ∀ pc i l, bi_fe 180 pc = some (i, l) → (bi_ilk i l && bi_kok 180 i && bi_nok 180 i) = true := bi_lgen (f := bi_c180) (n := 72) rfl rfl (by decide +kernel)
theorem bi_lp181 : ∀ pc i l, bi_fe 181 pc = some (i, l) → (bi_ilk i l && bi_kok 181 i && bi_nok 181 i) = true := bi_lgen (f := bi_c181) (n := 59) rfl rfl (by decide +kernel)
theorem bi_lp182 : ∀ pc i l, bi_fe 182 pc = some (i, l) → (bi_ilk i l && bi_kok 182 i && bi_nok 182 i) = true := bi_lgen (f := bi_c182) (n := 9) rfl rfl (by decide +kernel)
theorem bi_lp183 : ∀ pc i l, bi_fe 183 pc = some (i, l) → (bi_ilk i l && bi_kok 183 i && bi_nok 183 i) = true := bi_lgen (f := bi_c183) (n := 41) rfl rfl (by decide +kernel)
theorem bi_lp184 : ∀ pc i l, bi_fe 184 pc = some (i, l) → (bi_ilk i l && bi_kok 184 i && bi_nok 184 i) = true := bi_lgen (f := bi_c184) (n := 21) rfl rfl (by decide +kernel)
theorem bi_lp185 : ∀ pc i l, bi_fe 185 pc = some (i, l) → (bi_ilk i l && bi_kok 185 i && bi_nok 185 i) = true := bi_lgen (f := bi_c185) (n := 12) rfl rfl (by decide +kernel)
theorem bi_lp186 : ∀ pc i l, bi_fe 186 pc = some (i, l) → (bi_ilk i l && bi_kok 186 i && bi_nok 186 i) = true := bi_lgen (f := bi_c186) (n := 62) rfl rfl (by decide +kernel)
theorem bi_lp187 : ∀ pc i l, bi_fe 187 pc = some (i, l) → (bi_ilk i l && bi_kok 187 i && bi_nok 187 i) = true := bi_lgen (f := bi_c187) (n := 69) rfl rfl (by decide +kernel)
theorem bi_lp188 : ∀ pc i l, bi_fe 188 pc = some (i, l) → (bi_ilk i l && bi_kok 188 i && bi_nok 188 i) = true := bi_lgen (f := bi_c188) (n := 21) rfl rfl (by decide +kernel)
theorem bi_lp189 : ∀ pc i l, bi_fe 189 pc = some (i, l) → (bi_ilk i l && bi_kok 189 i && bi_nok 189 i) = true := bi_lgen (f := bi_c189) (n := 153) rfl rfl (by decide +kernel)
theorem bi_lp190 : ∀ pc i l, bi_fe 190 pc = some (i, l) → (bi_ilk i l && bi_kok 190 i && bi_nok 190 i) = true := bi_lgen (f := bi_c190) (n := 65) rfl rfl (by decide +kernel)
theorem bi_lp191 : ∀ pc i l, bi_fe 191 pc = some (i, l) → (bi_ilk i l && bi_kok 191 i && bi_nok 191 i) = true := bi_lgen (f := bi_c191) (n := 206) rfl rfl (by decide +kernel)
theorem bi_lp192 : ∀ pc i l, bi_fe 192 pc = some (i, l) → (bi_ilk i l && bi_kok 192 i && bi_nok 192 i) = true := bi_lgen (f := bi_c192) (n := 39) rfl rfl (by decide +kernel)
theorem bi_lp193 : ∀ pc i l, bi_fe 193 pc = some (i, l) → (bi_ilk i l && bi_kok 193 i && bi_nok 193 i) = true := bi_lgen (f := bi_c193) (n := 50) rfl rfl (by decide +kernel)
theorem bi_lp194 : ∀ pc i l, bi_fe 194 pc = some (i, l) → (bi_ilk i l && bi_kok 194 i && bi_nok 194 i) = true := bi_lgen (f := bi_c194) (n := 432) rfl rfl (by decide +kernel)
theorem bi_lp195 : ∀ pc i l, bi_fe 195 pc = some (i, l) → (bi_ilk i l && bi_kok 195 i && bi_nok 195 i) = true := bi_lgen (f := bi_c195) (n := 24) rfl rfl (by decide +kernel)
theorem bi_lp196 : ∀ pc i l, bi_fe 196 pc = some (i, l) → (bi_ilk i l && bi_kok 196 i && bi_nok 196 i) = true := bi_lgen (f := bi_c196) (n := 72) rfl rfl (by decide +kernel)
theorem bi_lp197 : ∀ pc i l, bi_fe 197 pc = some (i, l) → (bi_ilk i l && bi_kok 197 i && bi_nok 197 i) = true := bi_lgen (f := bi_c197) (n := 99) rfl rfl (by decide +kernel)
theorem bi_lp198 : ∀ pc i l, bi_fe 198 pc = some (i, l) → (bi_ilk i l && bi_kok 198 i && bi_nok 198 i) = true := bi_lgen (f := bi_c198) (n := 214) rfl rfl (by decide +kernel)
theorem bi_lp199 : ∀ pc i l, bi_fe 199 pc = some (i, l) → (bi_ilk i l && bi_kok 199 i && bi_nok 199 i) = true := bi_lgen (f := bi_c199) (n := 249) rfl rfl (by decide +kernel)
theorem bi_lp200 : ∀ pc i l, bi_fe 200 pc = some (i, l) → (bi_ilk i l && bi_kok 200 i && bi_nok 200 i) = true := bi_lgen (f := bi_c200) (n := 166) rfl rfl (by decide +kernel)
theorem bi_lp201 : ∀ pc i l, bi_fe 201 pc = some (i, l) → (bi_ilk i l && bi_kok 201 i && bi_nok 201 i) = true := bi_lgen (f := bi_c201) (n := 35) rfl rfl (by decide +kernel)
theorem bi_lp202 : ∀ pc i l, bi_fe 202 pc = some (i, l) → (bi_ilk i l && bi_kok 202 i && bi_nok 202 i) = true := bi_lgen (f := bi_c202) (n := 300) rfl rfl (by decide +kernel)
theorem bi_lp203 : ∀ pc i l, bi_fe 203 pc = some (i, l) → (bi_ilk i l && bi_kok 203 i && bi_nok 203 i) = true := bi_lgen (f := bi_c203) (n := 10) rfl rfl (by decide +kernel)
theorem bi_lp204 : ∀ pc i l, bi_fe 204 pc = some (i, l) → (bi_ilk i l && bi_kok 204 i && bi_nok 204 i) = true := bi_lgen (f := bi_c204) (n := 95) rfl rfl (by decide +kernel)
theorem bi_lp205 : ∀ pc i l, bi_fe 205 pc = some (i, l) → (bi_ilk i l && bi_kok 205 i && bi_nok 205 i) = true := bi_lgen (f := bi_c205) (n := 12) rfl rfl (by decide +kernel)
theorem bi_lp206 : ∀ pc i l, bi_fe 206 pc = some (i, l) → (bi_ilk i l && bi_kok 206 i && bi_nok 206 i) = true := bi_lgen (f := bi_c206) (n := 63) rfl rfl (by decide +kernel)
theorem bi_lp207 : ∀ pc i l, bi_fe 207 pc = some (i, l) → (bi_ilk i l && bi_kok 207 i && bi_nok 207 i) = true := bi_lgen (f := bi_c207) (n := 30) rfl rfl (by decide +kernel)
theorem bi_lp208 : ∀ pc i l, bi_fe 208 pc = some (i, l) → (bi_ilk i l && bi_kok 208 i && bi_nok 208 i) = true := bi_lgen (f := bi_c208) (n := 66) rfl rfl (by decide +kernel)
theorem bi_lp209 : ∀ pc i l, bi_fe 209 pc = some (i, l) → (bi_ilk i l && bi_kok 209 i && bi_nok 209 i) = true := bi_lgen (f := bi_c209) (n := 127) rfl rfl (by decide +kernel)
theorem bi_lp210 : ∀ pc i l, bi_fe 210 pc = some (i, l) → (bi_ilk i l && bi_kok 210 i && bi_nok 210 i) = true := bi_lgen (f := bi_c210) (n := 250) rfl rfl (by decide +kernel)
theorem bi_lp211 : ∀ pc i l, bi_fe 211 pc = some (i, l) → (bi_ilk i l && bi_kok 211 i && bi_nok 211 i) = true := bi_lgen (f := bi_c211) (n := 18) rfl rfl (by decide +kernel)
theorem bi_lp212 : ∀ pc i l, bi_fe 212 pc = some (i, l) → (bi_ilk i l && bi_kok 212 i && bi_nok 212 i) = true := bi_lgen (f := bi_c212) (n := 35) rfl rfl (by decide +kernel)
theorem bi_lp213 : ∀ pc i l, bi_fe 213 pc = some (i, l) → (bi_ilk i l && bi_kok 213 i && bi_nok 213 i) = true := bi_lgen (f := bi_c213) (n := 81) rfl rfl (by decide +kernel)
theorem bi_lp214 : ∀ pc i l, bi_fe 214 pc = some (i, l) → (bi_ilk i l && bi_kok 214 i && bi_nok 214 i) = true := bi_lgen (f := bi_c214) (n := 38) rfl rfl (by decide +kernel)
theorem bi_lp215 : ∀ pc i l, bi_fe 215 pc = some (i, l) → (bi_ilk i l && bi_kok 215 i && bi_nok 215 i) = true := bi_lgen (f := bi_c215) (n := 145) rfl rfl (by decide +kernel)
theorem bi_lp216 : ∀ pc i l, bi_fe 216 pc = some (i, l) → (bi_ilk i l && bi_kok 216 i && bi_nok 216 i) = true := bi_lgen (f := bi_c216) (n := 20) rfl rfl (by decide +kernel)
theorem bi_lp217 : ∀ pc i l, bi_fe 217 pc = some (i, l) → (bi_ilk i l && bi_kok 217 i && bi_nok 217 i) = true := bi_lgen (f := bi_c217) (n := 49) rfl rfl (by decide +kernel)
theorem bi_lp218 : ∀ pc i l, bi_fe 218 pc = some (i, l) → (bi_ilk i l && bi_kok 218 i && bi_nok 218 i) = true := bi_lgen (f := bi_c218) (n := 32) rfl rfl (by decide +kernel)
theorem bi_lp219 : ∀ pc i l, bi_fe 219 pc = some (i, l) → (bi_ilk i l && bi_kok 219 i && bi_nok 219 i) = true := bi_lgen (f := bi_c219) (n := 91) rfl rfl (by decide +kernel)
theorem bi_lp220 : ∀ pc i l, bi_fe 220 pc = some (i, l) → (bi_ilk i l && bi_kok 220 i && bi_nok 220 i) = true := bi_lgen (f := bi_c220) (n := 53) rfl rfl (by decide +kernel)
theorem bi_lp221 : ∀ pc i l, bi_fe 221 pc = some (i, l) → (bi_ilk i l && bi_kok 221 i && bi_nok 221 i) = true := bi_lgen (f := bi_c221) (n := 140) rfl rfl (by decide +kernel)
theorem bi_lp222 : ∀ pc i l, bi_fe 222 pc = some (i, l) → (bi_ilk i l && bi_kok 222 i && bi_nok 222 i) = true := bi_lgen (f := bi_c222) (n := 23) rfl rfl (by decide +kernel)
theorem bi_lp223 : ∀ pc i l, bi_fe 223 pc = some (i, l) → (bi_ilk i l && bi_kok 223 i && bi_nok 223 i) = true := bi_lgen (f := bi_c223) (n := 26) rfl rfl (by decide +kernel)
theorem bi_lp224 : ∀ pc i l, bi_fe 224 pc = some (i, l) → (bi_ilk i l && bi_kok 224 i && bi_nok 224 i) = true := bi_lgen (f := bi_c224) (n := 12) rfl rfl (by decide +kernel)
theorem bi_lp225 : ∀ pc i l, bi_fe 225 pc = some (i, l) → (bi_ilk i l && bi_kok 225 i && bi_nok 225 i) = true := bi_lgen (f := bi_c225) (n := 46) rfl rfl (by decide +kernel)
theorem bi_lp226 : ∀ pc i l, bi_fe 226 pc = some (i, l) → (bi_ilk i l && bi_kok 226 i && bi_nok 226 i) = true := bi_lgen (f := bi_c226) (n := 71) rfl rfl (by decide +kernel)
theorem bi_lp227 : ∀ pc i l, bi_fe 227 pc = some (i, l) → (bi_ilk i l && bi_kok 227 i && bi_nok 227 i) = true := bi_lgen (f := bi_c227) (n := 48) rfl rfl (by decide +kernel)
theorem bi_lp228 : ∀ pc i l, bi_fe 228 pc = some (i, l) → (bi_ilk i l && bi_kok 228 i && bi_nok 228 i) = true := bi_lgen (f := bi_c228) (n := 127) rfl rfl (by decide +kernel)
theorem bi_lp229 : ∀ pc i l, bi_fe 229 pc = some (i, l) → (bi_ilk i l && bi_kok 229 i && bi_nok 229 i) = true := bi_lgen (f := bi_c229) (n := 74) rfl rfl (by decide +kernel)
theorem bi_lp230 : ∀ pc i l, bi_fe 230 pc = some (i, l) → (bi_ilk i l && bi_kok 230 i && bi_nok 230 i) = true := bi_lgen (f := bi_c230) (n := 81) rfl rfl (by decide +kernel)
theorem bi_lp231 : ∀ pc i l, bi_fe 231 pc = some (i, l) → (bi_ilk i l && bi_kok 231 i && bi_nok 231 i) = true := bi_lgen (f := bi_c231) (n := 69) rfl rfl (by decide +kernel)
theorem bi_lp232 : ∀ pc i l, bi_fe 232 pc = some (i, l) → (bi_ilk i l && bi_kok 232 i && bi_nok 232 i) = true := bi_lgen (f := bi_c232) (n := 241) rfl rfl (by decide +kernel)
theorem bi_lp233 : ∀ pc i l, bi_fe 233 pc = some (i, l) → (bi_ilk i l && bi_kok 233 i && bi_nok 233 i) = true := bi_lgen (f := bi_c233) (n := 116) rfl rfl (by decide +kernel)
theorem bi_lp234 : ∀ pc i l, bi_fe 234 pc = some (i, l) → (bi_ilk i l && bi_kok 234 i && bi_nok 234 i) = true := bi_lgen (f := bi_c234) (n := 96) rfl rfl (by decide +kernel)
theorem bi_lp235 : ∀ pc i l, bi_fe 235 pc = some (i, l) → (bi_ilk i l && bi_kok 235 i && bi_nok 235 i) = true := bi_lgen (f := bi_c235) (n := 98) rfl rfl (by decide +kernel)
theorem bi_lp236 : ∀ pc i l, bi_fe 236 pc = some (i, l) → (bi_ilk i l && bi_kok 236 i && bi_nok 236 i) = true := bi_lgen (f := bi_c236) (n := 283) rfl rfl (by decide +kernel)
theorem bi_lp237 : ∀ pc i l, bi_fe 237 pc = some (i, l) → (bi_ilk i l && bi_kok 237 i && bi_nok 237 i) = true := bi_lgen (f := bi_c237) (n := 350) rfl rfl (by decide +kernel)
theorem bi_lp238 : ∀ pc i l, bi_fe 238 pc = some (i, l) → (bi_ilk i l && bi_kok 238 i && bi_nok 238 i) = true := bi_lgen (f := bi_c238) (n := 35) rfl rfl (by decide +kernel)
theorem bi_lp239 : ∀ pc i l, bi_fe 239 pc = some (i, l) → (bi_ilk i l && bi_kok 239 i && bi_nok 239 i) = true := bi_lgen (f := bi_c239) (n := 88) rfl rfl (by decide +kernel)
theorem bi_lp240 : ∀ pc i l, bi_fe 240 pc = some (i, l) → (bi_ilk i l && bi_kok 240 i && bi_nok 240 i) = true := bi_lgen (f := bi_c240) (n := 9) rfl rfl (by decide +kernel)
theorem bi_lp241 : ∀ pc i l, bi_fe 241 pc = some (i, l) → (bi_ilk i l && bi_kok 241 i && bi_nok 241 i) = true := bi_lgen (f := bi_c241) (n := 162) rfl rfl (by decide +kernel)
theorem bi_lp242 : ∀ pc i l, bi_fe 242 pc = some (i, l) → (bi_ilk i l && bi_kok 242 i && bi_nok 242 i) = true := bi_lgen (f := bi_c242) (n := 50) rfl rfl (by decide +kernel)
theorem bi_lp243 : ∀ pc i l, bi_fe 243 pc = some (i, l) → (bi_ilk i l && bi_kok 243 i && bi_nok 243 i) = true := bi_lgen (f := bi_c243) (n := 29) rfl rfl (by decide +kernel)
theorem bi_lp244 : ∀ pc i l, bi_fe 244 pc = some (i, l) → (bi_ilk i l && bi_kok 244 i && bi_nok 244 i) = true := bi_lgen (f := bi_c244) (n := 102) rfl rfl (by decide +kernel)
theorem bi_lp245 : ∀ pc i l, bi_fe 245 pc = some (i, l) → (bi_ilk i l && bi_kok 245 i && bi_nok 245 i) = true := bi_lgen (f := bi_c245) (n := 156) rfl rfl (by decide +kernel)
theorem bi_lp246 : ∀ pc i l, bi_fe 246 pc = some (i, l) → (bi_ilk i l && bi_kok 246 i && bi_nok 246 i) = true := bi_lgen (f := bi_c246) (n := 102) rfl rfl (by decide +kernel)
theorem bi_lp247 : ∀ pc i l, bi_fe 247 pc = some (i, l) → (bi_ilk i l && bi_kok 247 i && bi_nok 247 i) = true := bi_lgen (f := bi_c247) (n := 38) rfl rfl (by decide +kernel)
theorem bi_lp248 : ∀ pc i l, bi_fe 248 pc = some (i, l) → (bi_ilk i l && bi_kok 248 i && bi_nok 248 i) = true := bi_lgen (f := bi_c248) (n := 117) rfl rfl (by decide +kernel)
theorem bi_lp249 : ∀ pc i l, bi_fe 249 pc = some (i, l) → (bi_ilk i l && bi_kok 249 i && bi_nok 249 i) = true := bi_lgen (f := bi_c249) (n := 101) rfl rfl (by decide +kernel)
theorem bi_lp250 : ∀ pc i l, bi_fe 250 pc = some (i, l) → (bi_ilk i l && bi_kok 250 i && bi_nok 250 i) = true := bi_lgen (f := bi_c250) (n := 55) rfl rfl (by decide +kernel)
theorem bi_lp251 : ∀ pc i l, bi_fe 251 pc = some (i, l) → (bi_ilk i l && bi_kok 251 i && bi_nok 251 i) = true := bi_lgen (f := bi_c251) (n := 84) rfl rfl (by decide +kernel)
theorem bi_lp252 : ∀ pc i l, bi_fe 252 pc = some (i, l) → (bi_ilk i l && bi_kok 252 i && bi_nok 252 i) = true := bi_lgen (f := bi_c252) (n := 109) rfl rfl (by decide +kernel)
theorem bi_lp253 : ∀ pc i l, bi_fe 253 pc = some (i, l) → (bi_ilk i l && bi_kok 253 i && bi_nok 253 i) = true := bi_lgen (f := bi_c253) (n := 80) rfl rfl (by decide +kernel)
theorem bi_lp254 : ∀ pc i l, bi_fe 254 pc = some (i, l) → (bi_ilk i l && bi_kok 254 i && bi_nok 254 i) = true := bi_lgen (f := bi_c254) (n := 16) rfl rfl (by decide +kernel)
theorem bi_lp255 : ∀ pc i l, bi_fe 255 pc = some (i, l) → (bi_ilk i l && bi_kok 255 i && bi_nok 255 i) = true := bi_lgen (f := bi_c255) (n := 133) rfl rfl (by decide +kernel)
theorem bi_lp256 : ∀ pc i l, bi_fe 256 pc = some (i, l) → (bi_ilk i l && bi_kok 256 i && bi_nok 256 i) = true := bi_lgen (f := bi_c256) (n := 101) rfl rfl (by decide +kernel)
theorem bi_lp257 : ∀ pc i l, bi_fe 257 pc = some (i, l) → (bi_ilk i l && bi_kok 257 i && bi_nok 257 i) = true := bi_lgen (f := bi_c257) (n := 11) rfl rfl (by decide +kernel)
theorem bi_lp258 : ∀ pc i l, bi_fe 258 pc = some (i, l) → (bi_ilk i l && bi_kok 258 i && bi_nok 258 i) = true := bi_lgen (f := bi_c258) (n := 80) rfl rfl (by decide +kernel)
theorem bi_lp259 : ∀ pc i l, bi_fe 259 pc = some (i, l) → (bi_ilk i l && bi_kok 259 i && bi_nok 259 i) = true := bi_lgen (f := bi_c259) (n := 44) rfl rfl (by decide +kernel)
theorem bi_lp260 : ∀ pc i l, bi_fe 260 pc = some (i, l) → (bi_ilk i l && bi_kok 260 i && bi_nok 260 i) = true := bi_lgen (f := bi_c260) (n := 139) rfl rfl (by decide +kernel)
theorem bi_lp261 : ∀ pc i l, bi_fe 261 pc = some (i, l) → (bi_ilk i l && bi_kok 261 i && bi_nok 261 i) = true := bi_lgen (f := bi_c261) (n := 272) rfl rfl (by decide +kernel)
theorem bi_lp262 : ∀ pc i l, bi_fe 262 pc = some (i, l) → (bi_ilk i l && bi_kok 262 i && bi_nok 262 i) = true := bi_lgen (f := bi_c262) (n := 178) rfl rfl (by decide +kernel)
theorem bi_lp263 : ∀ pc i l, bi_fe 263 pc = some (i, l) → (bi_ilk i l && bi_kok 263 i && bi_nok 263 i) = true := bi_lgen (f := bi_c263) (n := 30) rfl rfl (by decide +kernel)
theorem bi_lp264 : ∀ pc i l, bi_fe 264 pc = some (i, l) → (bi_ilk i l && bi_kok 264 i && bi_nok 264 i) = true := bi_lgen (f := bi_c264) (n := 205) rfl rfl (by decide +kernel)
theorem bi_lp265 : ∀ pc i l, bi_fe 265 pc = some (i, l) → (bi_ilk i l && bi_kok 265 i && bi_nok 265 i) = true := bi_lgen (f := bi_c265) (n := 113) rfl rfl (by decide +kernel)
theorem bi_lp266 : ∀ pc i l, bi_fe 266 pc = some (i, l) → (bi_ilk i l && bi_kok 266 i && bi_nok 266 i) = true := bi_lgen (f := bi_c266) (n := 77) rfl rfl (by decide +kernel)
theorem bi_lp267 : ∀ pc i l, bi_fe 267 pc = some (i, l) → (bi_ilk i l && bi_kok 267 i && bi_nok 267 i) = true := bi_lgen (f := bi_c267) (n := 82) rfl rfl (by decide +kernel)
theorem bi_lp268 : ∀ pc i l, bi_fe 268 pc = some (i, l) → (bi_ilk i l && bi_kok 268 i && bi_nok 268 i) = true := bi_lgen (f := bi_c268) (n := 53) rfl rfl (by decide +kernel)
theorem bi_lp269 : ∀ pc i l, bi_fe 269 pc = some (i, l) → (bi_ilk i l && bi_kok 269 i && bi_nok 269 i) = true := bi_lgen (f := bi_c269) (n := 11) rfl rfl (by decide +kernel)
theorem bi_lp270 : ∀ pc i l, bi_fe 270 pc = some (i, l) → (bi_ilk i l && bi_kok 270 i && bi_nok 270 i) = true := bi_lgen (f := bi_c270) (n := 11) rfl rfl (by decide +kernel)
theorem bi_lp271 : ∀ pc i l, bi_fe 271 pc = some (i, l) → (bi_ilk i l && bi_kok 271 i && bi_nok 271 i) = true := bi_lgen (f := bi_c271) (n := 17) rfl rfl (by decide +kernel)
theorem bi_lp272 : ∀ pc i l, bi_fe 272 pc = some (i, l) → (bi_ilk i l && bi_kok 272 i && bi_nok 272 i) = true := bi_lgen (f := bi_c272) (n := 25) rfl rfl (by decide +kernel)
theorem bi_lp273 : ∀ pc i l, bi_fe 273 pc = some (i, l) → (bi_ilk i l && bi_kok 273 i && bi_nok 273 i) = true := bi_lgen (f := bi_c273) (n := 17) rfl rfl (by decide +kernel)
theorem bi_lp274 : ∀ pc i l, bi_fe 274 pc = some (i, l) → (bi_ilk i l && bi_kok 274 i && bi_nok 274 i) = true := bi_lgen (f := bi_c274) (n := 19) rfl rfl (by decide +kernel)
theorem bi_lp275 : ∀ pc i l, bi_fe 275 pc = some (i, l) → (bi_ilk i l && bi_kok 275 i && bi_nok 275 i) = true := bi_lgen (f := bi_c275) (n := 19) rfl rfl (by decide +kernel)
theorem bi_lp276 : ∀ pc i l, bi_fe 276 pc = some (i, l) → (bi_ilk i l && bi_kok 276 i && bi_nok 276 i) = true := bi_lgen (f := bi_c276) (n := 19) rfl rfl (by decide +kernel)
theorem bi_lp277 : ∀ pc i l, bi_fe 277 pc = some (i, l) → (bi_ilk i l && bi_kok 277 i && bi_nok 277 i) = true := bi_lgen (f := bi_c277) (n := 19) rfl rfl (by decide +kernel)
theorem bi_lp278 : ∀ pc i l, bi_fe 278 pc = some (i, l) → (bi_ilk i l && bi_kok 278 i && bi_nok 278 i) = true := bi_lgen (f := bi_c278) (n := 17) rfl rfl (by decide +kernel)
theorem bi_lp279 : ∀ pc i l, bi_fe 279 pc = some (i, l) → (bi_ilk i l && bi_kok 279 i && bi_nok 279 i) = true := bi_lgen (f := bi_c279) (n := 19) rfl rfl (by decide +kernel)
theorem bi_lp280 : ∀ pc i l, bi_fe 280 pc = some (i, l) → (bi_ilk i l && bi_kok 280 i && bi_nok 280 i) = true := bi_lgen (f := bi_c280) (n := 25) rfl rfl (by decide +kernel)
theorem bi_lp281 : ∀ pc i l, bi_fe 281 pc = some (i, l) → (bi_ilk i l && bi_kok 281 i && bi_nok 281 i) = true := bi_lgen (f := bi_c281) (n := 23) rfl rfl (by decide +kernel)
theorem bi_lp282 : ∀ pc i l, bi_fe 282 pc = some (i, l) → (bi_ilk i l && bi_kok 282 i && bi_nok 282 i) = true := bi_lgen (f := bi_c282) (n := 19) rfl rfl (by decide +kernel)
theorem bi_lp283 : ∀ pc i l, bi_fe 283 pc = some (i, l) → (bi_ilk i l && bi_kok 283 i && bi_nok 283 i) = true := bi_lgen (f := bi_c283) (n := 28) rfl rfl (by decide +kernel)
theorem bi_lp284 : ∀ pc i l, bi_fe 284 pc = some (i, l) → (bi_ilk i l && bi_kok 284 i && bi_nok 284 i) = true := bi_lgen (f := bi_c284) (n := 26) rfl rfl (by decide +kernel)
theorem bi_lp285 : ∀ pc i l, bi_fe 285 pc = some (i, l) → (bi_ilk i l && bi_kok 285 i && bi_nok 285 i) = true := bi_lgen (f := bi_c285) (n := 17) rfl rfl (by decide +kernel)
theorem bi_lp286 : ∀ pc i l, bi_fe 286 pc = some (i, l) → (bi_ilk i l && bi_kok 286 i && bi_nok 286 i) = true := bi_lgen (f := bi_c286) (n := 19) rfl rfl (by decide +kernel)
theorem bi_lp287 : ∀ pc i l, bi_fe 287 pc = some (i, l) → (bi_ilk i l && bi_kok 287 i && bi_nok 287 i) = true := bi_lgen (f := bi_c287) (n := 19) rfl rfl (by decide +kernel)
theorem bi_lp288 : ∀ pc i l, bi_fe 288 pc = some (i, l) → (bi_ilk i l && bi_kok 288 i && bi_nok 288 i) = true := bi_lgen (f := bi_c288) (n := 21) rfl rfl (by decide +kernel)
theorem bi_lp289 : ∀ pc i l, bi_fe 289 pc = some (i, l) → (bi_ilk i l && bi_kok 289 i && bi_nok 289 i) = true := bi_lgen (f := bi_c289) (n := 21) rfl rfl (by decide +kernel)
theorem bi_lp290 : ∀ pc i l, bi_fe 290 pc = some (i, l) → (bi_ilk i l && bi_kok 290 i && bi_nok 290 i) = true := bi_lgen (f := bi_c290) (n := 17) rfl rfl (by decide +kernel)
theorem bi_lp291 : ∀ pc i l, bi_fe 291 pc = some (i, l) → (bi_ilk i l && bi_kok 291 i && bi_nok 291 i) = true := bi_lgen (f := bi_c291) (n := 17) rfl rfl (by decide +kernel)
theorem bi_lp292 : ∀ pc i l, bi_fe 292 pc = some (i, l) → (bi_ilk i l && bi_kok 292 i && bi_nok 292 i) = true := bi_lgen (f := bi_c292) (n := 25) rfl rfl (by decide +kernel)
theorem bi_lp293 : ∀ pc i l, bi_fe 293 pc = some (i, l) → (bi_ilk i l && bi_kok 293 i && bi_nok 293 i) = true := bi_lgen (f := bi_c293) (n := 25) rfl rfl (by decide +kernel)
theorem bi_lp294 : ∀ pc i l, bi_fe 294 pc = some (i, l) → (bi_ilk i l && bi_kok 294 i && bi_nok 294 i) = true := bi_lgen (f := bi_c294) (n := 2000) rfl rfl (by decide +kernel)
theorem bi_lr0 : ∀ j, 0 ≤ j → j < 25 → ∀ pc i l, bi_fe j pc = some (i, l) → (bi_ilk i l && bi_kok j i && bi_nok j i) = true := by
  intro j h1 h2
  rcases Nat.eq_or_lt_of_le h1 with h1 | h1
  · rw [← h1]; exact bi_lp0
  rcases Nat.eq_or_lt_of_le h1 with h1 | h1
  · rw [← h1]; exact bi_lp1
  rcases Nat.eq_or_lt_of_le h1 with h1 | h1
  · rw [← h1]; exact bi_lp2
  rcases Nat.eq_or_lt_of_le h1 with h1 | h1
  · rw [← h1]; exact bi_lp3
  rcases Nat.eq_or_lt_of_le h1 with h1 | h1
  · rw [← h1]; exact bi_lp4
  rcases Nat.eq_or_lt_of_le h1 with h1 | h1
  · rw [← h1]; exact bi_lp5
  rcases Nat.eq_or_lt_of_le h1 with h1 | h1
  · rw [← h1]; exact bi_lp6
  rcases Nat.eq_or_lt_of_le h1 with h1 | h1
  · rw [← h1]; exact bi_lp7
  rcases Nat.eq_or_lt_of_le h1 with h1 | h1
  · rw [← h1]; exact bi_lp8
  rcases Nat.eq_or_lt_of_le h1 with h1 | h1
  · rw [← h1]; exact bi_lp9
  rcases Nat.eq_or_lt_of_le h1 with h1 | h1
  · rw [← h1]; exact bi_lp10
  rcases Nat.eq_or_lt_of_le h1 with h1 | h1
  · rw [← h1]; exact bi_lp11
  rcases Nat.eq_or_lt_of_le h1 with h1 | h1
  · rw [← h1]; exact bi_lp12
  rcases Nat.eq_or_lt_of_le h1 with h1 | h1
  · rw [← h1]; exact bi_lp13
  rcases Nat.eq_or_lt_of_le h1 with h1 | h1
  · rw [← h1]; exact bi_lp14
  rcases Nat.eq_or_lt_of_le h1 with h1 | h1
  · rw [← h1]; exact bi_lp15
  rcases Nat.eq_or_lt_of_le h1 with h1 | h1
  · rw [← h1]; exact bi_lp16
  rcases Nat.eq_or_lt_of_le h1 with h1 | h1
  · rw [← h1]; exact bi_lp17
  rcases Nat.eq_or_lt_of_le h1 with h1 | h1
  · rw [← h1]; exact bi_lp18
  rcases Nat.eq_or_lt_of_le h1 with h1 | h1
  · rw [← h1]; exact bi_lp19
  rcases Nat.eq_or_lt_of_le h1 with h1 | h1
  · rw [← h1]; exact bi_lp20
  rcases Nat.eq_or_lt_of_le h1 with h1 | h1
  · rw [← h1]; exact bi_lp21
  rcases Nat.eq_or_lt_of_le h1 with h1 | h1
  · rw [← h1]; exact bi_lp22
  rcases Nat.eq_or_lt_of_le h1 with h1 | h1
  · rw [← h1]; exact bi_lp23
  rcases Nat.eq_or_lt_of_le h1 with h1 | h1
  · rw [← h1]; exact bi_lp24
  omega
theorem bi_lr25 : ∀ j, 25 ≤ j → j < 50 → ∀ pc i l, bi_fe j pc = some (i, l) → (bi_ilk i l && bi_kok j i && bi_nok j i) = true := by
  intro j h1 h2
  rcases Nat.eq_or_lt_of_le h1 with h1 | h1
  · rw [← h1]; exact bi_lp25
  rcases Nat.eq_or_lt_of_le h1 with h1 | h1
  · rw [← h1]; exact bi_lp26
  rcases Nat.eq_or_lt_of_le h1 with h1 | h1
  · rw [← h1]; exact bi_lp27
  rcases Nat.eq_or_lt_of_le h1 with h1 | h1
  · rw [← h1]; exact bi_lp28
  rcases Nat.eq_or_lt_of_le h1 with h1 | h1
  · rw [← h1]; exact bi_lp29
  rcases Nat.eq_or_lt_of_le h1 with h1 | h1
  · rw [← h1]; exact bi_lp30
  rcases Nat.eq_or_lt_of_le h1 with h1 | h1
  · rw [← h1]; exact bi_lp31
  rcases Nat.eq_or_lt_of_le h1 with h1 | h1
  · rw [← h1]; exact bi_lp32
  rcases Nat.eq_or_lt_of_le h1 with h1 | h1
  · rw [← h1]; exact bi_lp33
  rcases Nat.eq_or_lt_of_le h1 with h1 | h1
  · rw [← h1]; exact bi_lp34
  rcases Nat.eq_or_lt_of_le h1 with h1 | h1
  · rw [← h1]; exact bi_lp35
  rcases Nat.eq_or_lt_of_le h1 with h1 | h1
  · rw [← h1]; exact bi_lp36
  rcases Nat.eq_or_lt_of_le h1 with h1 | h1
  · rw [← h1]; exact bi_lp37
  rcases Nat.eq_or_lt_of_le h1 with h1 | h1
  · rw [← h1]; exact bi_lp38
  rcases Nat.eq_or_lt_of_le h1 with h1 | h1
  · rw [← h1]; exact bi_lp39
  rcases Nat.eq_or_lt_of_le h1 with h1 | h1
  · rw [← h1]; exact bi_lp40
  rcases Nat.eq_or_lt_of_le h1 with h1 | h1
  · rw [← h1]; exact bi_lp41
  rcases Nat.eq_or_lt_of_le h1 with h1 | h1
  · rw [← h1]; exact bi_lp42
  rcases Nat.eq_or_lt_of_le h1 with h1 | h1
  · rw [← h1]; exact bi_lp43
  rcases Nat.eq_or_lt_of_le h1 with h1 | h1
  · rw [← h1]; exact bi_lp44
  rcases Nat.eq_or_lt_of_le h1 with h1 | h1
  · rw [← h1]; exact bi_lp45
  rcases Nat.eq_or_lt_of_le h1 with h1 | h1
  · rw [← h1]; exact bi_lp46
  rcases Nat.eq_or_lt_of_le h1 with h1 | h1
  · rw [← h1]; exact bi_lp47
  rcases Nat.eq_or_lt_of_le h1 with h1 | h1
  · rw [← h1]; exact bi_lp48
  rcases Nat.eq_or_lt_of_le h1 with h1 | h1
  · rw [← h1]; exact bi_lp49
  omega
theorem bi_lr50 : ∀ j, 50 ≤ j → j < 75 → ∀ pc i l, bi_fe j pc = some (i, l) → (bi_ilk i l && bi_kok j i && bi_nok j i) = true := by
  intro j h1 h2
  rcases Nat.eq_or_lt_of_le h1 with h1 | h1
  · rw [← h1]; exact bi_lp50
  rcases Nat.eq_or_lt_of_le h1 with h1 | h1
  · rw [← h1]; exact bi_lp51
  rcases Nat.eq_or_lt_of_le h1 with h1 | h1
  · rw [← h1]; exact bi_lp52
  rcases Nat.eq_or_lt_of_le h1 with h1 | h1
  · rw [← h1]; exact bi_lp53
  rcases Nat.eq_or_lt_of_le h1 with h1 | h1
  · rw [← h1]; exact bi_lp54
  rcases Nat.eq_or_lt_of_le h1 with h1 | h1
  · rw [← h1]; exact bi_lp55
  rcases Nat.eq_or_lt_of_le h1 with h1 | h1
  · rw [← h1]; exact bi_lp56
  rcases Nat.eq_or_lt_of_le h1 with h1 | h1
  · rw [← h1]; exact bi_lp57
  rcases Nat.eq_or_lt_of_le h1 with h1 | h1
  · rw [← h1]; exact bi_lp58
  rcases Nat.eq_or_lt_of_le h1 with h1 | h1
  · rw [← h1]; exact bi_lp59
  rcases Nat.eq_or_lt_of_le h1 with h1 | h1
  · rw [← h1]; exact bi_lp60
  rcases Nat.eq_or_lt_of_le h1 with h1 | h1
  · rw [← h1]; exact bi_lp61
  rcases Nat.eq_or_lt_of_le h1 with h1 | h1
  · rw [← h1]; exact bi_lp62
  rcases Nat.eq_or_lt_of_le h1 with h1 | h1
  · rw [← h1]; exact bi_lp63
  rcases Nat.eq_or_lt_of_le h1 with h1 | h1
  · rw [← h1]; exact bi_lp64
  rcases Nat.eq_or_lt_of_le h1 with h1 | h1
  · rw [← h1]; exact bi_lp65
  rcases Nat.eq_or_lt_of_le h1 with h1 | h1
  · rw [← h1]; exact bi_lp66
  rcases Nat.eq_or_lt_of_le h1 with h1 | h1
  · rw [← h1]; exact bi_lp67
  rcases Nat.eq_or_lt_of_le h1 with h1 | h1
  · rw [← h1]; exact bi_lp68
  rcases Nat.eq_or_lt_of_le h1 with h1 | h1
  · rw [← h1]; exact bi_lp69
  rcases Nat.eq_or_lt_of_le h1 with h1 | h1
  · rw [← h1]; exact bi_lp70
  rcases Nat.eq_or_lt_of_le h1 with h1 | h1
  · rw [← h1]; exact bi_lp71
  rcases Nat.eq_or_lt_of_le h1 with h1 | h1
  · rw [← h1]; exact bi_lp72
  rcases Nat.eq_or_lt_of_le h1 with h1 | h1
  · rw [← h1]; exact bi_lp73
  rcases Nat.eq_or_lt_of_le h1 with h1 | h1
  · rw [← h1]; exact bi_lp74
  omega
theorem bi_lr75 : ∀ j, 75 ≤ j → j < 100 → ∀ pc i l, bi_fe j pc = some (i, l) → (bi_ilk i l && bi_kok j i && bi_nok j i) = true := by
  intro j h1 h2
  rcases Nat.eq_or_lt_of_le h1 with h1 | h1
  · rw [← h1]; exact bi_lp75
  rcases Nat.eq_or_lt_of_le h1 with h1 | h1
  · rw [← h1]; exact bi_lp76
  rcases Nat.eq_or_lt_of_le h1 with h1 | h1
  · rw [← h1]; exact bi_lp77
  rcases Nat.eq_or_lt_of_le h1 with h1 | h1
  · rw [← h1]; exact bi_lp78
  rcases Nat.eq_or_lt_of_le h1 with h1 | h1
  · rw [← h1]; exact bi_lp79
  rcases Nat.eq_or_lt_of_le h1 with h1 | h1
  · rw [← h1]; exact bi_lp80
  rcases Nat.eq_or_lt_of_le h1 with h1 | h1
  · rw [← h1]; exact bi_lp81
  rcases Nat.eq_or_lt_of_le h1 with h1 | h1
  · rw [← h1]; exact bi_lp82
  rcases Nat.eq_or_lt_of_le h1 with h1 | h1
  · rw [← h1]; exact bi_lp83
  rcases Nat.eq_or_lt_of_le h1 with h1 | h1
  · rw [← h1]; exact bi_lp84
  rcases Nat.eq_or_lt_of_le h1 with h1 | h1
  · rw [← h1]; exact bi_lp85
  rcases Nat.eq_or_lt_of_le h1 with h1 | h1
  · rw [← h1]; exact bi_lp86
  rcases Nat.eq_or_lt_of_le h1 with h1 | h1
  · rw [← h1]; exact bi_lp87
  rcases Nat.eq_or_lt_of_le h1 with h1 | h1
  · rw [← h1]; exact bi_lp88
  rcases Nat.eq_or_lt_of_le h1 with h1 | h1
  · rw [← h1]; exact bi_lp89
  rcases Nat.eq_or_lt_of_le h1 with h1 | h1
  · rw [← h1]; exact bi_lp90
  rcases Nat.eq_or_lt_of_le h1 with h1 | h1
  · rw [← h1]; exact bi_lp91
  rcases Nat.eq_or_lt_of_le h1 with h1 | h1
  · rw [← h1]; exact bi_lp92
  rcases Nat.eq_or_lt_of_le h1 with h1 | h1
  · rw [← h1]; exact bi_lp93
  rcases Nat.eq_or_lt_of_le h1 with h1 | h1
  · rw [← h1]; exact bi_lp94
  rcases Nat.eq_or_lt_of_le h1 with h1 | h1
  · rw [← h1]; exact bi_lp95
  rcases Nat.eq_or_lt_of_le h1 with h1 | h1
  · rw [← h1]; exact bi_lp96
  rcases Nat.eq_or_lt_of_le h1 with h1 | h1
  · rw [← h1]; exact bi_lp97
  rcases Nat.eq_or_lt_of_le h1 with h1 | h1
  · rw [← h1]; exact bi_lp98
  rcases Nat.eq_or_lt_of_le h1 with h1 | h1
  · rw [← h1]; exact bi_lp99
  omega
theorem bi_lr100 : ∀ j, 100 ≤ j → j < 125 → ∀ pc i l, bi_fe j pc = some (i, l) → (bi_ilk i l && bi_kok j i && bi_nok j i) = true := by
  intro j h1 h2
  rcases Nat.eq_or_lt_of_le h1 with h1 | h1
  · rw [← h1]; exact bi_lp100
  rcases Nat.eq_or_lt_of_le h1 with h1 | h1
  · rw [← h1]; exact bi_lp101
  rcases Nat.eq_or_lt_of_le h1 with h1 | h1
  · rw [← h1]; exact bi_lp102
  rcases Nat.eq_or_lt_of_le h1 with h1 | h1
  · rw [← h1]; exact bi_lp103
  rcases Nat.eq_or_lt_of_le h1 with h1 | h1
  · rw [← h1]; exact bi_lp104
  rcases Nat.eq_or_lt_of_le h1 with h1 | h1
  · rw [← h1]; exact bi_lp105
  rcases Nat.eq_or_lt_of_le h1 with h1 | h1
  · rw [← h1]; exact bi_lp106
  rcases Nat.eq_or_lt_of_le h1 with h1 | h1
  · rw [← h1]; exact bi_lp107
  rcases Nat.eq_or_lt_of_le h1 with h1 | h1
  · rw [← h1]; exact bi_lp108
  rcases Nat.eq_or_lt_of_le h1 with h1 | h1
  · rw [← h1]; exact bi_lp109
  rcases Nat.eq_or_lt_of_le h1 with h1 | h1
  · rw [← h1]; exact bi_lp110
  rcases Nat.eq_or_lt_of_le h1 with h1 | h1
  · rw [← h1]; exact bi_lp111
  rcases Nat.eq_or_lt_of_le h1 with h1 | h1
  · rw [← h1]; exact bi_lp112
  rcases Nat.eq_or_lt_of_le h1 with h1 | h1
  · rw [← h1]; exact bi_lp113
  rcases Nat.eq_or_lt_of_le h1 with h1 | h1
  · rw [← h1]; exact bi_lp114
  rcases Nat.eq_or_lt_of_le h1 with h1 | h1
  · rw [← h1]; exact bi_lp115
  rcases Nat.eq_or_lt_of_le h1 with h1 | h1
  · rw [← h1]; exact bi_lp116
  rcases Nat.eq_or_lt_of_le h1 with h1 | h1
  · rw [← h1]; exact bi_lp117
  rcases Nat.eq_or_lt_of_le h1 with h1 | h1
  · rw [← h1]; exact bi_lp118
  rcases Nat.eq_or_lt_of_le h1 with h1 | h1
  · rw [← h1]; exact bi_lp119
  rcases Nat.eq_or_lt_of_le h1 with h1 | h1
  · rw [← h1]; exact bi_lp120
  rcases Nat.eq_or_lt_of_le h1 with h1 | h1
  · rw [← h1]; exact bi_lp121
  rcases Nat.eq_or_lt_of_le h1 with h1 | h1
  · rw [← h1]; exact bi_lp122
  rcases Nat.eq_or_lt_of_le h1 with h1 | h1
  · rw [← h1]; exact bi_lp123
  rcases Nat.eq_or_lt_of_le h1 with h1 | h1
  · rw [← h1]; exact bi_lp124
  omega
theorem bi_lr125 : ∀ j, 125 ≤ j → j < 150 → ∀ pc i l, bi_fe j pc = some (i, l) → (bi_ilk i l && bi_kok j i && bi_nok j i) = true := by
  intro j h1 h2
  rcases Nat.eq_or_lt_of_le h1 with h1 | h1
  · rw [← h1]; exact bi_lp125
  rcases Nat.eq_or_lt_of_le h1 with h1 | h1
  · rw [← h1]; exact bi_lp126
  rcases Nat.eq_or_lt_of_le h1 with h1 | h1
  · rw [← h1]; exact bi_lp127
  rcases Nat.eq_or_lt_of_le h1 with h1 | h1
  · rw [← h1]; exact bi_lp128
  rcases Nat.eq_or_lt_of_le h1 with h1 | h1
  · rw [← h1]; exact bi_lp129
  rcases Nat.eq_or_lt_of_le h1 with h1 | h1
  · rw [← h1]; exact bi_lp130
  rcases Nat.eq_or_lt_of_le h1 with h1 | h1
  · rw [← h1]; exact bi_lp131
  rcases Nat.eq_or_lt_of_le h1 with h1 | h1
  · rw [← h1]; exact bi_lp132
  rcases Nat.eq_or_lt_of_le h1 with h1 | h1
  · rw [← h1]; exact bi_lp133
  rcases Nat.eq_or_lt_of_le h1 with h1 | h1
  · rw [← h1]; exact bi_lp134
  rcases Nat.eq_or_lt_of_le h1 with h1 | h1
  · rw [← h1]; exact bi_lp135
  rcases Nat.eq_or_lt_of_le h1 with h1 | h1
  · rw [← h1]; exact bi_lp136
  rcases Nat.eq_or_lt_of_le h1 with h1 | h1
  · rw [← h1]; exact bi_lp137
  rcases Nat.eq_or_lt_of_le h1 with h1 | h1
  · rw [← h1]; exact bi_lp138
  rcases Nat.eq_or_lt_of_le h1 with h1 | h1
  · rw [← h1]; exact bi_lp139
  rcases Nat.eq_or_lt_of_le h1 with h1 | h1
  · rw [← h1]; exact bi_lp140
  rcases Nat.eq_or_lt_of_le h1 with h1 | h1
  · rw [← h1]; exact bi_lp141
  rcases Nat.eq_or_lt_of_le h1 with h1 | h1
  · rw [← h1]; exact bi_lp142
  rcases Nat.eq_or_lt_of_le h1 with h1 | h1
  · rw [← h1]; exact bi_lp143
  rcases Nat.eq_or_lt_of_le h1 with h1 | h1
  · rw [← h1]; exact bi_lp144
  rcases Nat.eq_or_lt_of_le h1 with h1 | h1
  · rw [← h1]; exact bi_lp145
  rcases Nat.eq_or_lt_of_le h1 with h1 | h1
  · rw [← h1]; exact bi_lp146
  rcases Nat.eq_or_lt_of_le h1 with h1 | h1
  · rw [← h1]; exact bi_lp147
  rcases Nat.eq_or_lt_of_le h1 with h1 | h1
  · rw [← h1]; exact bi_lp148
  rcases Nat.eq_or_lt_of_le h1 with h1 | h1
  · rw [← h1]; exact bi_lp149
  omega
theorem bi_lr150 : ∀ j, 150 ≤ j → j < 175 → ∀ pc i l, bi_fe j pc = some (i, l) → (bi_ilk i l && bi_kok j i && bi_nok j i) = true := by
  intro j h1 h2
  rcases Nat.eq_or_lt_of_le h1 with h1 | h1
  · rw [← h1]; exact bi_lp150
  rcases Nat.eq_or_lt_of_le h1 with h1 | h1
  · rw [← h1]; exact bi_lp151
  rcases Nat.eq_or_lt_of_le h1 with h1 | h1
  · rw [← h1]; exact bi_lp152
  rcases Nat.eq_or_lt_of_le h1 with h1 | h1
  · rw [← h1]; exact bi_lp153
  rcases Nat.eq_or_lt_of_le h1 with h1 | h1
  · rw [← h1]; exact bi_lp154
  rcases Nat.eq_or_lt_of_le h1 with h1 | h1
  · rw [← h1]; exact bi_lp155
  rcases Nat.eq_or_lt_of_le h1 with h1 | h1
  · rw [← h1]; exact bi_lp156
  rcases Nat.eq_or_lt_of_le h1 with h1 | h1
  · rw [← h1]; exact bi_lp157
  rcases Nat.eq_or_lt_of_le h1 with h1 | h1
  · rw [← h1]; exact bi_lp158
  rcases Nat.eq_or_lt_of_le h1 with h1 | h1
  · rw [← h1]; exact bi_lp159
  rcases Nat.eq_or_lt_of_le h1 with h1 | h1
  · rw [← h1]; exact bi_lp160
  rcases Nat.eq_or_lt_of_le h1 with h1 | h1
  · rw [← h1]; exact bi_lp161
  rcases Nat.eq_or_lt_of_le h1 with h1 | h1
  · rw [← h1]; exact bi_lp162
  rcases Nat.eq_or_lt_of_le h1 with h1 | h1
  · rw [← h1]; exact bi_lp163
  rcases Nat.eq_or_lt_of_le h1 with h1 | h1
  · rw [← h1]; exact bi_lp164
  rcases Nat.eq_or_lt_of_le h1 with h1 | h1
  · rw [← h1]; exact bi_lp165
  rcases Nat.eq_or_lt_of_le h1 with h1 | h1
  · rw [← h1]; exact bi_lp166
  rcases Nat.eq_or_lt_of_le h1 with h1 | h1
  · rw [← h1]; exact bi_lp167
  rcases Nat.eq_or_lt_of_le h1 with h1 | h1
  · rw [← h1]; exact bi_lp168
  rcases Nat.eq_or_lt_of_le h1 with h1 | h1
  · rw [← h1]; exact bi_lp169
  rcases Nat.eq_or_lt_of_le h1 with h1 | h1
  · rw [← h1]; exact bi_lp170
  rcases Nat.eq_or_lt_of_le h1 with h1 | h1
  · rw [← h1]; exact bi_lp171
  rcases Nat.eq_or_lt_of_le h1 with h1 | h1
  · rw [← h1]; exact bi_lp172
  rcases Nat.eq_or_lt_of_le h1 with h1 | h1
  · rw [← h1]; exact bi_lp173
  rcases Nat.eq_or_lt_of_le h1 with h1 | h1
  · rw [← h1]; exact bi_lp174
  omega
theorem bi_lr175 : ∀ j, 175 ≤ j → j < 200 → ∀ pc i l, bi_fe j pc = some (i, l) → (bi_ilk i l && bi_kok j i && bi_nok j i) = true := by
  intro j h1 h2
  rcases Nat.eq_or_lt_of_le h1 with h1 | h1
  · rw [← h1]; exact bi_lp175
  rcases Nat.eq_or_lt_of_le h1 with h1 | h1
  · rw [← h1]; exact bi_lp176
  rcases Nat.eq_or_lt_of_le h1 with h1 | h1
  · rw [← h1]; exact bi_lp177
  rcases Nat.eq_or_lt_of_le h1 with h1 | h1
  · rw [← h1]; exact bi_lp178
  rcases Nat.eq_or_lt_of_le h1 with h1 | h1
  · rw [← h1]; exact bi_lp179
  rcases Nat.eq_or_lt_of_le h1 with h1 | h1
  · rw [← h1]; exact bi_lp180
  rcases Nat.eq_or_lt_of_le h1 with h1 | h1
  · rw [← h1]; exact bi_lp181
  rcases Nat.eq_or_lt_of_le h1 with h1 | h1
  · rw [← h1]; exact bi_lp182
  rcases Nat.eq_or_lt_of_le h1 with h1 | h1
  · rw [← h1]; exact bi_lp183
  rcases Nat.eq_or_lt_of_le h1 with h1 | h1
  · rw [← h1]; exact bi_lp184
  rcases Nat.eq_or_lt_of_le h1 with h1 | h1
  · rw [← h1]; exact bi_lp185
  rcases Nat.eq_or_lt_of_le h1 with h1 | h1
  · rw [← h1]; exact bi_lp186
  rcases Nat.eq_or_lt_of_le h1 with h1 | h1
  · rw [← h1]; exact bi_lp187
  rcases Nat.eq_or_lt_of_le h1 with h1 | h1
  · rw [← h1]; exact bi_lp188
  rcases Nat.eq_or_lt_of_le h1 with h1 | h1
  · rw [← h1]; exact bi_lp189
  rcases Nat.eq_or_lt_of_le h1 with h1 | h1
  · rw [← h1]; exact bi_lp190
  rcases Nat.eq_or_lt_of_le h1 with h1 | h1
  · rw [← h1]; exact bi_lp191
  rcases Nat.eq_or_lt_of_le h1 with h1 | h1
  · rw [← h1]; exact bi_lp192
  rcases Nat.eq_or_lt_of_le h1 with h1 | h1
  · rw [← h1]; exact bi_lp193
  rcases Nat.eq_or_lt_of_le h1 with h1 | h1
  · rw [← h1]; exact bi_lp194
  rcases Nat.eq_or_lt_of_le h1 with h1 | h1
  · rw [← h1]; exact bi_lp195
  rcases Nat.eq_or_lt_of_le h1 with h1 | h1
  · rw [← h1]; exact bi_lp196
  rcases Nat.eq_or_lt_of_le h1 with h1 | h1
  · rw [← h1]; exact bi_lp197
  rcases Nat.eq_or_lt_of_le h1 with h1 | h1
  · rw [← h1]; exact bi_lp198
  rcases Nat.eq_or_lt_of_le h1 with h1 | h1
  · rw [← h1]; exact bi_lp199
  omega
theorem bi_lr200 : ∀ j, 200 ≤ j → j < 225 → ∀ pc i l, bi_fe j pc = some (i, l) → (bi_ilk i l && bi_kok j i && bi_nok j i) = true := by
  intro j h1 h2
  rcases Nat.eq_or_lt_of_le h1 with h1 | h1
  · rw [← h1]; exact bi_lp200
  rcases Nat.eq_or_lt_of_le h1 with h1 | h1
  · rw [← h1]; exact bi_lp201
  rcases Nat.eq_or_lt_of_le h1 with h1 | h1
  · rw [← h1]; exact bi_lp202
  rcases Nat.eq_or_lt_of_le h1 with h1 | h1
  · rw [← h1]; exact bi_lp203
  rcases Nat.eq_or_lt_of_le h1 with h1 | h1
  · rw [← h1]; exact bi_lp204
  rcases Nat.eq_or_lt_of_le h1 with h1 | h1
  · rw [← h1]; exact bi_lp205
  rcases Nat.eq_or_lt_of_le h1 with h1 | h1
  · rw [← h1]; exact bi_lp206
  rcases Nat.eq_or_lt_of_le h1 with h1 | h1
  · rw [← h1]; exact bi_lp207
  rcases Nat.eq_or_lt_of_le h1 with h1 | h1
  · rw [← h1]; exact bi_lp208
  rcases Nat.eq_or_lt_of_le h1 with h1 | h1
  · rw [← h1]; exact bi_lp209
  rcases Nat.eq_or_lt_of_le h1 with h1 | h1
  · rw [← h1]; exact bi_lp210
  rcases Nat.eq_or_lt_of_le h1 with h1 | h1
  · rw [← h1]; exact bi_lp211
  rcases Nat.eq_or_lt_of_le h1 with h1 | h1
  · rw [← h1]; exact bi_lp212
  rcases Nat.eq_or_lt_of_le h1 with h1 | h1
  · rw [← h1]; exact bi_lp213
  rcases Nat.eq_or_lt_of_le h1 with h1 | h1
  · rw [← h1]; exact bi_lp214
  rcases Nat.eq_or_lt_of_le h1 with h1 | h1
  · rw [← h1]; exact bi_lp215
  rcases Nat.eq_or_lt_of_le h1 with h1 | h1
  · rw [← h1]; exact bi_lp216
  rcases Nat.eq_or_lt_of_le h1 with h1 | h1
  · rw [← h1]; exact bi_lp217
  rcases Nat.eq_or_lt_of_le h1 with h1 | h1
  · rw [← h1]; exact bi_lp218
  rcases Nat.eq_or_lt_of_le h1 with h1 | h1
  · rw [← h1]; exact bi_lp219
  rcases Nat.eq_or_lt_of_le h1 with h1 | h1
  · rw [← h1]; exact bi_lp220
  rcases Nat.eq_or_lt_of_le h1 with h1 | h1
  · rw [← h1]; exact bi_lp221
  rcases Nat.eq_or_lt_of_le h1 with h1 | h1
  · rw [← h1]; exact bi_lp222
  rcases Nat.eq_or_lt_of_le h1 with h1 | h1
  · rw [← h1]; exact bi_lp223
  rcases Nat.eq_or_lt_of_le h1 with h1 | h1
  · rw [← h1]; exact bi_lp224
  omega
theorem bi_lr225 : ∀ j, 225 ≤ j → j < 250 → ∀ pc i l, bi_fe j pc = some (i, l) → (bi_ilk i l && bi_kok j i && bi_nok j i) = true := by
  intro j h1 h2
  rcases Nat.eq_or_lt_of_le h1 with h1 | h1
  · rw [← h1]; exact bi_lp225
  rcases Nat.eq_or_lt_of_le h1 with h1 | h1
  · rw [← h1]; exact bi_lp226
  rcases Nat.eq_or_lt_of_le h1 with h1 | h1
  · rw [← h1]; exact bi_lp227
  rcases Nat.eq_or_lt_of_le h1 with h1 | h1
  · rw [← h1]; exact bi_lp228
  rcases Nat.eq_or_lt_of_le h1 with h1 | h1
  · rw [← h1]; exact bi_lp229
  rcases Nat.eq_or_lt_of_le h1 with h1 | h1
  · rw [← h1]; exact bi_lp230
  rcases Nat.eq_or_lt_of_le h1 with h1 | h1
  · rw [← h1]; exact bi_lp231
  rcases Nat.eq_or_lt_of_le h1 with h1 | h1
  · rw [← h1]; exact bi_lp232
  rcases Nat.eq_or_lt_of_le h1 with h1 | h1
  · rw [← h1]; exact bi_lp233
  rcases Nat.eq_or_lt_of_le h1 with h1 | h1
  · rw [← h1]; exact bi_lp234
  rcases Nat.eq_or_lt_of_le h1 with h1 | h1
  · rw [← h1]; exact bi_lp235
  rcases Nat.eq_or_lt_of_le h1 with h1 | h1
  · rw [← h1]; exact bi_lp236
  rcases Nat.eq_or_lt_of_le h1 with h1 | h1
  · rw [← h1]; exact bi_lp237
  rcases Nat.eq_or_lt_of_le h1 with h1 | h1
  · rw [← h1]; exact bi_lp238
  rcases Nat.eq_or_lt_of_le h1 with h1 | h1
  · rw [← h1]; exact bi_lp239
  rcases Nat.eq_or_lt_of_le h1 with h1 | h1
  · rw [← h1]; exact bi_lp240
  rcases Nat.eq_or_lt_of_le h1 with h1 | h1
  · rw [← h1]; exact bi_lp241
  rcases Nat.eq_or_lt_of_le h1 with h1 | h1
  · rw [← h1]; exact bi_lp242
  rcases Nat.eq_or_lt_of_le h1 with h1 | h1
  · rw [← h1]; exact bi_lp243
  rcases Nat.eq_or_lt_of_le h1 with h1 | h1
  · rw [← h1]; exact bi_lp244
  rcases Nat.eq_or_lt_of_le h1 with h1 | h1
  · rw [← h1]; exact bi_lp245
  rcases Nat.eq_or_lt_of_le h1 with h1 | h1
  · rw [← h1]; exact bi_lp246
  rcases Nat.eq_or_lt_of_le h1 with h1 | h1
  · rw [← h1]; exact bi_lp247
  rcases Nat.eq_or_lt_of_le h1 with h1 | h1
  · rw [← h1]; exact bi_lp248
  rcases Nat.eq_or_lt_of_le h1 with h1 | h1
  · rw [← h1]; exact bi_lp249
  omega
theorem bi_lr250 : ∀ j, 250 ≤ j → j < 275 → ∀ pc i l, bi_fe j pc = some (i, l) → (bi_ilk i l && bi_kok j i && bi_nok j i) = true := by
  intro j h1 h2
  rcases Nat.eq_or_lt_of_le h1 with h1 | h1
  · rw [← h1]; exact bi_lp250
  rcases Nat.eq_or_lt_of_le h1 with h1 | h1
  · rw [← h1]; exact bi_lp251
  rcases Nat.eq_or_lt_of_le h1 with h1 | h1
  · rw [← h1]; exact bi_lp252
  rcases Nat.eq_or_lt_of_le h1 with h1 | h1
  · rw [← h1]; exact bi_lp253
  rcases Nat.eq_or_lt_of_le h1 with h1 | h1
  · rw [← h1]; exact bi_lp254
  rcases Nat.eq_or_lt_of_le h1 with h1 | h1
  · rw [← h1]; exact bi_lp255
  rcases Nat.eq_or_lt_of_le h1 with h1 | h1
  · rw [← h1]; exact bi_lp256
  rcases Nat.eq_or_lt_of_le h1 with h1 | h1
  · rw [← h1]; exact bi_lp257
  rcases Nat.eq_or_lt_of_le h1 with h1 | h1
  · rw [← h1]; exact bi_lp258
  rcases Nat.eq_or_lt_of_le h1 with h1 | h1
  · rw [← h1]; exact bi_lp259
  rcases Nat.eq_or_lt_of_le h1 with h1 | h1
  · rw [← h1]; exact bi_lp260
  rcases Nat.eq_or_lt_of_le h1 with h1 | h1
  · rw [← h1]; exact bi_lp261
  rcases Nat.eq_or_lt_of_le h1 with h1 | h1
  · rw [← h1]; exact bi_lp262
  rcases Nat.eq_or_lt_of_le h1 with h1 | h1
  · rw [← h1]; exact bi_lp263
  rcases Nat.eq_or_lt_of_le h1 with h1 | h1
  · rw [← h1]; exact bi_lp264
  rcases Nat.eq_or_lt_of_le h1 with h1 | h1
  · rw [← h1]; exact bi_lp265
  rcases Nat.eq_or_lt_of_le h1 with h1 | h1
  · rw [← h1]; exact bi_lp266
  rcases Nat.eq_or_lt_of_le h1 with h1 | h1
  · rw [← h1]; exact bi_lp267
  rcases Nat.eq_or_lt_of_le h1 with h1 | h1
  · rw [← h1]; exact bi_lp268
  rcases Nat.eq_or_lt_of_le h1 with h1 | h1
  · rw [← h1]; exact bi_lp269
  rcases Nat.eq_or_lt_of_le h1 with h1 | h1
  · rw [← h1]; exact bi_lp270
  rcases Nat.eq_or_lt_of_le h1 with h1 | h1
  · rw [← h1]; exact bi_lp271
  rcases Nat.eq_or_lt_of_le h1 with h1 | h1
  · rw [← h1]; exact bi_lp272
  rcases Nat.eq_or_lt_of_le h1 with h1 | h1
  · rw [← h1]; exact bi_lp273
  rcases Nat.eq_or_lt_of_le h1 with h1 | h1
  · rw [← h1]; exact bi_lp274
  omega
theorem bi_lr275 : ∀ j, 275 ≤ j → j < 295 → ∀ pc i l, bi_fe j pc = some (i, l) → (bi_ilk i l && bi_kok j i && bi_nok j i) = true := by
  intro j h1 h2
  rcases Nat.eq_or_lt_of_le h1 with h1 | h1
  · rw [← h1]; exact bi_lp275
  rcases Nat.eq_or_lt_of_le h1 with h1 | h1
  · rw [← h1]; exact bi_lp276
  rcases Nat.eq_or_lt_of_le h1 with h1 | h1
  · rw [← h1]; exact bi_lp277
  rcases Nat.eq_or_lt_of_le h1 with h1 | h1
  · rw [← h1]; exact bi_lp278
  rcases Nat.eq_or_lt_of_le h1 with h1 | h1
  · rw [← h1]; exact bi_lp279
  rcases Nat.eq_or_lt_of_le h1 with h1 | h1
  · rw [← h1]; exact bi_lp280
  rcases Nat.eq_or_lt_of_le h1 with h1 | h1
  · rw [← h1]; exact bi_lp281
  rcases Nat.eq_or_lt_of_le h1 with h1 | h1
  · rw [← h1]; exact bi_lp282
  rcases Nat.eq_or_lt_of_le h1 with h1 | h1
  · rw [← h1]; exact bi_lp283
  rcases Nat.eq_or_lt_of_le h1 with h1 | h1
  · rw [← h1]; exact bi_lp284
  rcases Nat.eq_or_lt_of_le h1 with h1 | h1
  · rw [← h1]; exact bi_lp285
  rcases Nat.eq_or_lt_of_le h1 with h1 | h1
  · rw [← h1]; exact bi_lp286
  rcases Nat.eq_or_lt_of_le h1 with h1 | h1
  · rw [← h1]; exact bi_lp287
  rcases Nat.eq_or_lt_of_le h1 with h1 | h1
  · rw [← h1]; exact bi_lp288
  rcases Nat.eq_or_lt_of_le h1 with h1 | h1
  · rw [← h1]; exact bi_lp289
  rcases Nat.eq_or_lt_of_le h1 with h1 | h1
  · rw [← h1]; exact bi_lp290
  rcases Nat.eq_or_lt_of_le h1 with h1 | h1
  · rw [← h1]; exact bi_lp291
  rcases Nat.eq_or_lt_of_le h1 with h1 | h1
  · rw [← h1]; exact bi_lp292
  rcases Nat.eq_or_lt_of_le h1 with h1 | h1
  · rw [← h1]; exact bi_lp293
  rcases Nat.eq_or_lt_of_le h1 with h1 | h1
  · rw [← h1]; exact bi_lp294
  omega
theorem bi_fe_j {j pc : Nat} {q : Instr × Nat} (h : bi_fe j pc = some q) : j < 295 := by
  unfold bi_fe at h
  cases hb : (Nat.blt j 295 && Nat.blt pc (bi_ln j)) with
  | false => rw [hb] at h; cases h
  | true =>
    simp only [Bool.and_eq_true, Nat.blt_eq] at hb
    exact hb.1
theorem bi_len {j pc l : Nat} {i : Instr} (h : bi_fe j pc = some (i, l)) : (bi_ilk i l && bi_kok j i && bi_nok j i) = true := by
  have hj := bi_fe_j h
  rcases Nat.lt_or_ge j 25 with h0 | h0
  · exact bi_lr0 j (by omega) h0 pc i l h
  rcases Nat.lt_or_ge j 50 with h25 | h25
  · exact bi_lr25 j (by omega) h25 pc i l h
  rcases Nat.lt_or_ge j 75 with h50 | h50
  · exact bi_lr50 j (by omega) h50 pc i l h
  rcases Nat.lt_or_ge j 100 with h75 | h75
  · exact bi_lr75 j (by omega) h75 pc i l h
  rcases Nat.lt_or_ge j 125 with h100 | h100
  · exact bi_lr100 j (by omega) h100 pc i l h
  rcases Nat.lt_or_ge j 150 with h125 | h125
  · exact bi_lr125 j (by omega) h125 pc i l h
  rcases Nat.lt_or_ge j 175 with h150 | h150
  · exact bi_lr150 j (by omega) h150 pc i l h
  rcases Nat.lt_or_ge j 200 with h175 | h175
  · exact bi_lr175 j (by omega) h175 pc i l h
  rcases Nat.lt_or_ge j 225 with h200 | h200
  · exact bi_lr200 j (by omega) h200 pc i l h
  rcases Nat.lt_or_ge j 250 with h225 | h225
  · exact bi_lr225 j (by omega) h225 pc i l h
  rcases Nat.lt_or_ge j 275 with h250 | h250
  · exact bi_lr250 j (by omega) h250 pc i l h
  rcases Nat.lt_or_ge j 295 with h275 | h275
  · exact bi_lr275 j (by omega) h275 pc i l h
  omega
