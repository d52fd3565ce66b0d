/-- the row of the table at pc is what the bytes say -/
def bi_dq (f : Nat → Option (Instr × Nat)) (cc : ByteArray) (pc : Nat) : Bool := match f pc with
  | none => true
  | some (i, l) => decide (decode cc pc = .ok (i, l))
def bi_dP (j : Nat) : Prop := ∀ pc i l, bi_fe j pc = some (i, l) → decode (bi_mc j) pc = .ok (i, l)
theorem bi_dgen {j n : Nat} {f : Nat → Option (Instr × Nat)} {cc : ByteArray} (h1 : bi_ln j = n) (h2 : bi_fe0 j = f) (h3 : bi_mc j = cc) (hk : ∀ pc, pc < n → bi_dq f cc pc = true) : bi_dP j := by
  intro pc i l h
  unfold bi_fe at h
  rw [h1, h2] at h
  rw [h3]
  cases hb : (Nat.blt j 295 && Nat.blt pc n) with
  | false => rw [hb] at h; cases h
  | true =>
    rw [hb] at h
    simp only [Bool.and_eq_true, Nat.blt_eq] at hb
    have := hk pc hb.2
    unfold bi_dq at this
    have h' : f pc = some (i, l) := h
    rw [h'] at this
    exact of_decide_eq_true this
theorem bi_drg {f : Nat → Option (Instr × Nat)} {cc : ByteArray} {a n : Nat} (h : (List.range' a n).all (fun pc => bi_dq f cc pc) = true) : ∀ pc, a ≤ pc → pc < a + n → bi_dq f cc pc = true := fun pc h1 h2 => List.all_eq_true.mp h pc (by rw [List.mem_range'_1]; exact ⟨h1, h2⟩)

theorem bi_dk0 : (List.range' 0 76).all (fun pc => bi_dq bi_c0 cX0_init pc) = true := by decide +kernel
theorem bi_dp0 : bi_dP 0 := bi_dgen (f := bi_c0) (cc := cX0_init) (n := 76) rfl rfl rfl (fun pc h => bi_drg bi_dk0 pc (Nat.zero_le _) (by omega))
theorem bi_dk1 : (List.range' 0 38).all (fun pc => bi_dq bi_c1 cX0_clear pc) = true := by decide +kernel
theorem bi_dp1 : bi_dP 1 := bi_dgen (f := bi_c1) (cc := cX0_clear) (n := 38) rfl rfl rfl (fun pc h => bi_drg bi_dk1 pc (Nat.zero_le _) (by omega))
theorem bi_dk2 : (List.range' 0 26).all (fun pc => bi_dq bi_c2 cX1_init pc) = true := by decide +kernel
theorem bi_dp2 : bi_dP 2 := bi_dgen (f := bi_c2) (cc := cX1_init) (n := 26) rfl rfl rfl (fun pc h => bi_drg bi_dk2 pc (Nat.zero_le _) (by omega))
theorem bi_dk3 : (List.range' 0 40).all (fun pc => bi_dq bi_c3 cX1_sights pc) = true := by decide +kernel
theorem bi_dp3 : bi_dP 3 := bi_dgen (f := bi_c3) (cc := cX1_sights) (n := 40) rfl rfl rfl (fun pc h => bi_drg bi_dk3 pc (Nat.zero_le _) (by omega))
theorem bi_dk4 : (List.range' 0 78).all (fun pc => bi_dq bi_c4 cX1_weight pc) = true := by decide +kernel
theorem bi_dp4 : bi_dP 4 := bi_dgen (f := bi_c4) (cc := cX1_weight) (n := 78) rfl rfl rfl (fun pc h => bi_drg bi_dk4 pc (Nat.zero_le _) (by omega))
theorem bi_dk5 : (List.range' 0 84).all (fun pc => bi_dq bi_c5 cX1_needless pc) = true := by decide +kernel
theorem bi_dp5 : bi_dP 5 := bi_dgen (f := bi_c5) (cc := cX1_needless) (n := 84) rfl rfl rfl (fun pc h => bi_drg bi_dk5 pc (Nat.zero_le _) (by omega))
theorem bi_dk6 : (List.range' 0 114).all (fun pc => bi_dq bi_c6 cX1_turning pc) = true := by decide +kernel
theorem bi_dp6 : bi_dP 6 := bi_dgen (f := bi_c6) (cc := cX1_turning) (n := 114) rfl rfl rfl (fun pc h => bi_drg bi_dk6 pc (Nat.zero_le _) (by omega))
theorem bi_dk7 : (List.range' 0 80).all (fun pc => bi_dq bi_c7 cX1_rolesLacking pc) = true := by decide +kernel
theorem bi_dp7 : bi_dP 7 := bi_dgen (f := bi_c7) (cc := cX1_rolesLacking) (n := 80) rfl rfl rfl (fun pc h => bi_drg bi_dk7 pc (Nat.zero_le _) (by omega))
theorem bi_dk8 : (List.range' 0 37).all (fun pc => bi_dq bi_c8 cX1_readsWith pc) = true := by decide +kernel
theorem bi_dp8 : bi_dP 8 := bi_dgen (f := bi_c8) (cc := cX1_readsWith) (n := 37) rfl rfl rfl (fun pc h => bi_drg bi_dk8 pc (Nat.zero_le _) (by omega))
theorem bi_dk9 : (List.range' 0 115).all (fun pc => bi_dq bi_c9 cX1_chanceToRead pc) = true := by decide +kernel
theorem bi_dp9 : bi_dP 9 := bi_dgen (f := bi_c9) (cc := cX1_chanceToRead) (n := 115) rfl rfl rfl (fun pc h => bi_drg bi_dk9 pc (Nat.zero_le _) (by omega))
theorem bi_dk10 : (List.range' 0 51).all (fun pc => bi_dq bi_c10 cX1_chanceOf pc) = true := by decide +kernel
theorem bi_dp10 : bi_dP 10 := bi_dgen (f := bi_c10) (cc := cX1_chanceOf) (n := 51) rfl rfl rfl (fun pc h => bi_drg bi_dk10 pc (Nat.zero_le _) (by omega))
theorem bi_dk11 : (List.range' 0 49).all (fun pc => bi_dq bi_c11 cX1_readyToLook pc) = true := by decide +kernel
theorem bi_dp11 : bi_dP 11 := bi_dgen (f := bi_c11) (cc := cX1_readyToLook) (n := 49) rfl rfl rfl (fun pc h => bi_drg bi_dk11 pc (Nat.zero_le _) (by omega))
theorem bi_dk12 : (List.range' 0 19).all (fun pc => bi_dq bi_c12 cX1_setsOf pc) = true := by decide +kernel
theorem bi_dp12 : bi_dP 12 := bi_dgen (f := bi_c12) (cc := cX1_setsOf) (n := 19) rfl rfl rfl (fun pc h => bi_drg bi_dk12 pc (Nat.zero_le _) (by omega))
theorem bi_dk13 : (List.range' 0 45).all (fun pc => bi_dq bi_c13 cX1_roleToLookBy pc) = true := by decide +kernel
theorem bi_dp13 : bi_dP 13 := bi_dgen (f := bi_c13) (cc := cX1_roleToLookBy) (n := 45) rfl rfl rfl (fun pc h => bi_drg bi_dk13 pc (Nat.zero_le _) (by omega))
theorem bi_dk14 : (List.range' 0 92).all (fun pc => bi_dq bi_c14 cX1_search pc) = true := by decide +kernel
theorem bi_dp14 : bi_dP 14 := bi_dgen (f := bi_c14) (cc := cX1_search) (n := 92) rfl rfl rfl (fun pc h => bi_drg bi_dk14 pc (Nat.zero_le _) (by omega))
theorem bi_dk15 : (List.range' 0 38).all (fun pc => bi_dq bi_c15 cX1_canChange pc) = true := by decide +kernel
theorem bi_dp15 : bi_dP 15 := bi_dgen (f := bi_c15) (cc := cX1_canChange) (n := 38) rfl rfl rfl (fun pc h => bi_drg bi_dk15 pc (Nat.zero_le _) (by omega))
theorem bi_dk16 : (List.range' 0 84).all (fun pc => bi_dq bi_c16 cX1_seenAstray pc) = true := by decide +kernel
theorem bi_dp16 : bi_dP 16 := bi_dgen (f := bi_c16) (cc := cX1_seenAstray) (n := 84) rfl rfl rfl (fun pc h => bi_drg bi_dk16 pc (Nat.zero_le _) (by omega))
theorem bi_dk17 : (List.range' 0 52).all (fun pc => bi_dq bi_c17 cX1_seenOf pc) = true := by decide +kernel
theorem bi_dp17 : bi_dP 17 := bi_dgen (f := bi_c17) (cc := cX1_seenOf) (n := 52) rfl rfl rfl (fun pc h => bi_drg bi_dk17 pc (Nat.zero_le _) (by omega))
theorem bi_dk18 : (List.range' 0 60).all (fun pc => bi_dq bi_c18 cX1_isSo pc) = true := by decide +kernel
theorem bi_dp18 : bi_dP 18 := bi_dgen (f := bi_c18) (cc := cX1_isSo) (n := 60) rfl rfl rfl (fun pc h => bi_drg bi_dk18 pc (Nat.zero_le _) (by omega))
theorem bi_dk19 : (List.range' 0 108).all (fun pc => bi_dq bi_c19 cX1_tryNumbers pc) = true := by decide +kernel
theorem bi_dp19 : bi_dP 19 := bi_dgen (f := bi_c19) (cc := cX1_tryNumbers) (n := 108) rfl rfl rfl (fun pc h => bi_drg bi_dk19 pc (Nat.zero_le _) (by omega))
theorem bi_dk20 : (List.range' 0 130).all (fun pc => bi_dq bi_c20 cX1_fits pc) = true := by decide +kernel
theorem bi_dp20 : bi_dP 20 := bi_dgen (f := bi_c20) (cc := cX1_fits) (n := 130) rfl rfl rfl (fun pc h => bi_drg bi_dk20 pc (Nat.zero_le _) (by omega))
theorem bi_dk21 : (List.range' 0 38).all (fun pc => bi_dq bi_c21 cX1_noteFound pc) = true := by decide +kernel
theorem bi_dp21 : bi_dP 21 := bi_dgen (f := bi_c21) (cc := cX1_noteFound) (n := 38) rfl rfl rfl (fun pc h => bi_drg bi_dk21 pc (Nat.zero_le _) (by omega))
theorem bi_dk22 : (List.range' 0 117).all (fun pc => bi_dq bi_c22 cX1_noteTurns pc) = true := by decide +kernel
theorem bi_dp22 : bi_dP 22 := bi_dgen (f := bi_c22) (cc := cX1_noteTurns) (n := 117) rfl rfl rfl (fun pc h => bi_drg bi_dk22 pc (Nat.zero_le _) (by omega))
theorem bi_dk23 : (List.range' 0 38).all (fun pc => bi_dq bi_c23 cX2_init pc) = true := by decide +kernel
theorem bi_dp23 : bi_dP 23 := bi_dgen (f := bi_c23) (cc := cX2_init) (n := 38) rfl rfl rfl (fun pc h => bi_drg bi_dk23 pc (Nat.zero_le _) (by omega))
theorem bi_dk24 : (List.range' 0 38).all (fun pc => bi_dq bi_c24 cX2_sit pc) = true := by decide +kernel
theorem bi_dp24 : bi_dP 24 := bi_dgen (f := bi_c24) (cc := cX2_sit) (n := 38) rfl rfl rfl (fun pc h => bi_drg bi_dk24 pc (Nat.zero_le _) (by omega))
theorem bi_dk25 : (List.range' 0 61).all (fun pc => bi_dq bi_c25 cX2_allHadBy pc) = true := by decide +kernel
theorem bi_dp25 : bi_dP 25 := bi_dgen (f := bi_c25) (cc := cX2_allHadBy) (n := 61) rfl rfl rfl (fun pc h => bi_drg bi_dk25 pc (Nat.zero_le _) (by omega))
theorem bi_dk26 : (List.range' 0 30).all (fun pc => bi_dq bi_c26 cX2_become pc) = true := by decide +kernel
theorem bi_dp26 : bi_dP 26 := bi_dgen (f := bi_c26) (cc := cX2_become) (n := 30) rfl rfl rfl (fun pc h => bi_drg bi_dk26 pc (Nat.zero_le _) (by omega))
theorem bi_dk27 : (List.range' 0 29).all (fun pc => bi_dq bi_c27 cX2_take pc) = true := by decide +kernel
theorem bi_dp27 : bi_dP 27 := bi_dgen (f := bi_c27) (cc := cX2_take) (n := 29) rfl rfl rfl (fun pc h => bi_drg bi_dk27 pc (Nat.zero_le _) (by omega))
theorem bi_dk28 : (List.range' 0 109).all (fun pc => bi_dq bi_c28 cX2_applying pc) = true := by decide +kernel
theorem bi_dp28 : bi_dP 28 := bi_dgen (f := bi_c28) (cc := cX2_applying) (n := 109) rfl rfl rfl (fun pc h => bi_drg bi_dk28 pc (Nat.zero_le _) (by omega))
theorem bi_dk29 : (List.range' 0 113).all (fun pc => bi_dq bi_c29 cX2_holding pc) = true := by decide +kernel
theorem bi_dp29 : bi_dP 29 := bi_dgen (f := bi_c29) (cc := cX2_holding) (n := 113) rfl rfl rfl (fun pc h => bi_drg bi_dk29 pc (Nat.zero_le _) (by omega))
theorem bi_dk30 : (List.range' 0 44).all (fun pc => bi_dq bi_c30 cX2_lets pc) = true := by decide +kernel
theorem bi_dp30 : bi_dP 30 := bi_dgen (f := bi_c30) (cc := cX2_lets) (n := 44) rfl rfl rfl (fun pc h => bi_drg bi_dk30 pc (Nat.zero_le _) (by omega))
theorem bi_dk31 : (List.range' 0 25).all (fun pc => bi_dq bi_c31 cX2_allows pc) = true := by decide +kernel
theorem bi_dp31 : bi_dP 31 := bi_dgen (f := bi_c31) (cc := cX2_allows) (n := 25) rfl rfl rfl (fun pc h => bi_drg bi_dk31 pc (Nat.zero_le _) (by omega))
theorem bi_dk32 : (List.range' 0 52).all (fun pc => bi_dq bi_c32 cX2_rowsRead pc) = true := by decide +kernel
theorem bi_dp32 : bi_dP 32 := bi_dgen (f := bi_c32) (cc := cX2_rowsRead) (n := 52) rfl rfl rfl (fun pc h => bi_drg bi_dk32 pc (Nat.zero_le _) (by omega))
theorem bi_dk33 : (List.range' 0 52).all (fun pc => bi_dq bi_c33 cX2_readersOf pc) = true := by decide +kernel
theorem bi_dp33 : bi_dP 33 := bi_dgen (f := bi_c33) (cc := cX2_readersOf) (n := 52) rfl rfl rfl (fun pc h => bi_drg bi_dk33 pc (Nat.zero_le _) (by omega))
theorem bi_dk34 : (List.range' 0 223).all (fun pc => bi_dq bi_c34 cX2_holds pc) = true := by decide +kernel
theorem bi_dp34 : bi_dP 34 := bi_dgen (f := bi_c34) (cc := cX2_holds) (n := 223) rfl rfl rfl (fun pc h => bi_drg bi_dk34 pc (Nat.zero_le _) (by omega))
theorem bi_dk35 : (List.range' 0 60).all (fun pc => bi_dq bi_c35 cX2_ofNone pc) = true := by decide +kernel
theorem bi_dp35 : bi_dP 35 := bi_dgen (f := bi_c35) (cc := cX2_ofNone) (n := 60) rfl rfl rfl (fun pc h => bi_drg bi_dk35 pc (Nat.zero_le _) (by omega))
theorem bi_dk36 : (List.range' 0 37).all (fun pc => bi_dq bi_c36 cX2_ofOne pc) = true := by decide +kernel
theorem bi_dp36 : bi_dP 36 := bi_dgen (f := bi_c36) (cc := cX2_ofOne) (n := 37) rfl rfl rfl (fun pc h => bi_drg bi_dk36 pc (Nat.zero_le _) (by omega))
theorem bi_dk37 : (List.range' 0 136).all (fun pc => bi_dq bi_c37 cX2_ofTwo pc) = true := by decide +kernel
theorem bi_dp37 : bi_dP 37 := bi_dgen (f := bi_c37) (cc := cX2_ofTwo) (n := 136) rfl rfl rfl (fun pc h => bi_drg bi_dk37 pc (Nat.zero_le _) (by omega))
theorem bi_dk38 : (List.range' 0 41).all (fun pc => bi_dq bi_c38 cX3_init pc) = true := by decide +kernel
theorem bi_dp38 : bi_dP 38 := bi_dgen (f := bi_c38) (cc := cX3_init) (n := 41) rfl rfl rfl (fun pc h => bi_drg bi_dk38 pc (Nat.zero_le _) (by omega))
theorem bi_dk39 : (List.range' 0 99).all (fun pc => bi_dq bi_c39 cX3_outcome pc) = true := by decide +kernel
theorem bi_dp39 : bi_dP 39 := bi_dgen (f := bi_c39) (cc := cX3_outcome) (n := 99) rfl rfl rfl (fun pc h => bi_drg bi_dk39 pc (Nat.zero_le _) (by omega))
theorem bi_dk40 : (List.range' 0 142).all (fun pc => bi_dq bi_c40 cX3_lay pc) = true := by decide +kernel
theorem bi_dp40 : bi_dP 40 := bi_dgen (f := bi_c40) (cc := cX3_lay) (n := 142) rfl rfl rfl (fun pc h => bi_drg bi_dk40 pc (Nat.zero_le _) (by omega))
theorem bi_dk41 : (List.range' 0 33).all (fun pc => bi_dq bi_c41 cX3_viewsDownFrom pc) = true := by decide +kernel
theorem bi_dp41 : bi_dP 41 := bi_dgen (f := bi_c41) (cc := cX3_viewsDownFrom) (n := 33) rfl rfl rfl (fun pc h => bi_drg bi_dk41 pc (Nat.zero_le _) (by omega))
theorem bi_dk42 : (List.range' 0 133).all (fun pc => bi_dq bi_c42 cX3_layWheres pc) = true := by decide +kernel
theorem bi_dp42 : bi_dP 42 := bi_dgen (f := bi_c42) (cc := cX3_layWheres) (n := 133) rfl rfl rfl (fun pc h => bi_drg bi_dk42 pc (Nat.zero_le _) (by omega))
theorem bi_dk43 : (List.range' 0 90).all (fun pc => bi_dq bi_c43 cX3_policyCost pc) = true := by decide +kernel
theorem bi_dp43 : bi_dP 43 := bi_dgen (f := bi_c43) (cc := cX3_policyCost) (n := 90) rfl rfl rfl (fun pc h => bi_drg bi_dk43 pc (Nat.zero_le _) (by omega))
theorem bi_dk44 : (List.range' 0 56).all (fun pc => bi_dq bi_c44 cX3_order pc) = true := by decide +kernel
theorem bi_dp44 : bi_dP 44 := bi_dgen (f := bi_c44) (cc := cX3_order) (n := 56) rfl rfl rfl (fun pc h => bi_drg bi_dk44 pc (Nat.zero_le _) (by omega))
theorem bi_dk45 : (List.range' 0 40).all (fun pc => bi_dq bi_c45 cX3_firstThatMayGoAhead pc) = true := by decide +kernel
theorem bi_dp45 : bi_dP 45 := bi_dgen (f := bi_c45) (cc := cX3_firstThatMayGoAhead) (n := 40) rfl rfl rfl (fun pc h => bi_drg bi_dk45 pc (Nat.zero_le _) (by omega))
theorem bi_dk46 : (List.range' 0 122).all (fun pc => bi_dq bi_c46 cX3_pass pc) = true := by decide +kernel
theorem bi_dp46 : bi_dP 46 := bi_dgen (f := bi_c46) (cc := cX3_pass) (n := 122) rfl rfl rfl (fun pc h => bi_drg bi_dk46 pc (Nat.zero_le _) (by omega))
theorem bi_dk47 : (List.range' 0 166).all (fun pc => bi_dq bi_c47 cX3_passRow pc) = true := by decide +kernel
theorem bi_dp47 : bi_dP 47 := bi_dgen (f := bi_c47) (cc := cX3_passRow) (n := 166) rfl rfl rfl (fun pc h => bi_drg bi_dk47 pc (Nat.zero_le _) (by omega))
theorem bi_dk48 : (List.range' 0 15).all (fun pc => bi_dq bi_c48 cX4_init pc) = true := by decide +kernel
theorem bi_dp48 : bi_dP 48 := bi_dgen (f := bi_c48) (cc := cX4_init) (n := 15) rfl rfl rfl (fun pc h => bi_drg bi_dk48 pc (Nat.zero_le _) (by omega))
theorem bi_dk49 : (List.range' 0 16).all (fun pc => bi_dq bi_c49 cX4_aim pc) = true := by decide +kernel
theorem bi_dp49 : bi_dP 49 := bi_dgen (f := bi_c49) (cc := cX4_aim) (n := 16) rfl rfl rfl (fun pc h => bi_drg bi_dk49 pc (Nat.zero_le _) (by omega))
theorem bi_dk50 : (List.range' 0 44).all (fun pc => bi_dq bi_c50 cX4_readRule pc) = true := by decide +kernel
theorem bi_dp50 : bi_dP 50 := bi_dgen (f := bi_c50) (cc := cX4_readRule) (n := 44) rfl rfl rfl (fun pc h => bi_drg bi_dk50 pc (Nat.zero_le _) (by omega))
theorem bi_dk51 : (List.range' 0 40).all (fun pc => bi_dq bi_c51 cX4_canBegin pc) = true := by decide +kernel
theorem bi_dp51 : bi_dP 51 := bi_dgen (f := bi_c51) (cc := cX4_canBegin) (n := 40) rfl rfl rfl (fun pc h => bi_drg bi_dk51 pc (Nat.zero_le _) (by omega))
theorem bi_dk52 : (List.range' 0 97).all (fun pc => bi_dq bi_c52 cX4_readOr pc) = true := by decide +kernel
theorem bi_dp52 : bi_dP 52 := bi_dgen (f := bi_c52) (cc := cX4_readOr) (n := 97) rfl rfl rfl (fun pc h => bi_drg bi_dk52 pc (Nat.zero_le _) (by omega))
theorem bi_dk53 : (List.range' 0 66).all (fun pc => bi_dq bi_c53 cX4_readAnd pc) = true := by decide +kernel
theorem bi_dp53 : bi_dP 53 := bi_dgen (f := bi_c53) (cc := cX4_readAnd) (n := 66) rfl rfl rfl (fun pc h => bi_drg bi_dk53 pc (Nat.zero_le _) (by omega))
theorem bi_dk54 : (List.range' 0 94).all (fun pc => bi_dq bi_c54 cX4_readNot pc) = true := by decide +kernel
theorem bi_dp54 : bi_dP 54 := bi_dgen (f := bi_c54) (cc := cX4_readNot) (n := 94) rfl rfl rfl (fun pc h => bi_drg bi_dk54 pc (Nat.zero_le _) (by omega))
theorem bi_dk55 : (List.range' 0 76).all (fun pc => bi_dq bi_c55 cX4_readTest pc) = true := by decide +kernel
theorem bi_dp55 : bi_dP 55 := bi_dgen (f := bi_c55) (cc := cX4_readTest) (n := 76) rfl rfl rfl (fun pc h => bi_drg bi_dk55 pc (Nat.zero_le _) (by omega))
theorem bi_dk56 : (List.range' 0 97).all (fun pc => bi_dq bi_c56 cX4_readSum pc) = true := by decide +kernel
theorem bi_dp56 : bi_dP 56 := bi_dgen (f := bi_c56) (cc := cX4_readSum) (n := 97) rfl rfl rfl (fun pc h => bi_drg bi_dk56 pc (Nat.zero_le _) (by omega))
theorem bi_dk57 : (List.range' 0 127).all (fun pc => bi_dq bi_c57 cX4_readProduct pc) = true := by decide +kernel
theorem bi_dp57 : bi_dP 57 := bi_dgen (f := bi_c57) (cc := cX4_readProduct) (n := 127) rfl rfl rfl (fun pc h => bi_drg bi_dk57 pc (Nat.zero_le _) (by omega))
theorem bi_dk58 : (List.range' 0 75).all (fun pc => bi_dq bi_c58 cX4_readPart pc) = true := by decide +kernel
theorem bi_dp58 : bi_dP 58 := bi_dgen (f := bi_c58) (cc := cX4_readPart) (n := 75) rfl rfl rfl (fun pc h => bi_drg bi_dk58 pc (Nat.zero_le _) (by omega))
theorem bi_dk59 : (List.range' 0 136).all (fun pc => bi_dq bi_c59 cX4_readWord pc) = true := by decide +kernel
theorem bi_dp59 : bi_dP 59 := bi_dgen (f := bi_c59) (cc := cX4_readWord) (n := 136) rfl rfl rfl (fun pc h => bi_drg bi_dk59 pc (Nat.zero_le _) (by omega))
theorem bi_dk60 : (List.range' 0 63).all (fun pc => bi_dq bi_c60 cX4_readHas pc) = true := by decide +kernel
theorem bi_dp60 : bi_dP 60 := bi_dgen (f := bi_c60) (cc := cX4_readHas) (n := 63) rfl rfl rfl (fun pc h => bi_drg bi_dk60 pc (Nat.zero_le _) (by omega))
theorem bi_dk61 : (List.range' 0 40).all (fun pc => bi_dq bi_c61 cX4_readWithin pc) = true := by decide +kernel
theorem bi_dp61 : bi_dP 61 := bi_dgen (f := bi_c61) (cc := cX4_readWithin) (n := 40) rfl rfl rfl (fun pc h => bi_drg bi_dk61 pc (Nat.zero_le _) (by omega))
theorem bi_dk62 : (List.range' 0 33).all (fun pc => bi_dq bi_c62 cX5_init pc) = true := by decide +kernel
theorem bi_dp62 : bi_dP 62 := bi_dgen (f := bi_c62) (cc := cX5_init) (n := 33) rfl rfl rfl (fun pc h => bi_drg bi_dk62 pc (Nat.zero_le _) (by omega))
theorem bi_dk63 : (List.range' 0 16).all (fun pc => bi_dq bi_c63 cX5_clear pc) = true := by decide +kernel
theorem bi_dp63 : bi_dP 63 := bi_dgen (f := bi_c63) (cc := cX5_clear) (n := 16) rfl rfl rfl (fun pc h => bi_drg bi_dk63 pc (Nat.zero_le _) (by omega))
theorem bi_dk64 : (List.range' 0 35).all (fun pc => bi_dq bi_c64 cX5_add pc) = true := by decide +kernel
theorem bi_dp64 : bi_dP 64 := bi_dgen (f := bi_c64) (cc := cX5_add) (n := 35) rfl rfl rfl (fun pc h => bi_drg bi_dk64 pc (Nat.zero_le _) (by omega))
theorem bi_dk65 : (List.range' 0 76).all (fun pc => bi_dq bi_c65 cX5_end pc) = true := by decide +kernel
theorem bi_dp65 : bi_dP 65 := bi_dgen (f := bi_c65) (cc := cX5_end) (n := 76) rfl rfl rfl (fun pc h => bi_drg bi_dk65 pc (Nat.zero_le _) (by omega))
theorem bi_dk66 : (List.range' 0 18).all (fun pc => bi_dq bi_c66 cX5_isRule pc) = true := by decide +kernel
theorem bi_dp66 : bi_dP 66 := bi_dgen (f := bi_c66) (cc := cX5_isRule) (n := 18) rfl rfl rfl (fun pc h => bi_drg bi_dk66 pc (Nat.zero_le _) (by omega))
theorem bi_dk67 : (List.range' 0 25).all (fun pc => bi_dq bi_c67 cX5_startOf pc) = true := by decide +kernel
theorem bi_dp67 : bi_dP 67 := bi_dgen (f := bi_c67) (cc := cX5_startOf) (n := 25) rfl rfl rfl (fun pc h => bi_drg bi_dk67 pc (Nat.zero_le _) (by omega))
theorem bi_dk68 : (List.range' 0 19).all (fun pc => bi_dq bi_c68 cX5_costOf pc) = true := by decide +kernel
theorem bi_dp68 : bi_dP 68 := bi_dgen (f := bi_c68) (cc := cX5_costOf) (n := 19) rfl rfl rfl (fun pc h => bi_drg bi_dk68 pc (Nat.zero_le _) (by omega))
theorem bi_dk69 : (List.range' 0 26).all (fun pc => bi_dq bi_c69 cX5_isSilent pc) = true := by decide +kernel
theorem bi_dp69 : bi_dP 69 := bi_dgen (f := bi_c69) (cc := cX5_isSilent) (n := 26) rfl rfl rfl (fun pc h => bi_drg bi_dk69 pc (Nat.zero_le _) (by omega))
theorem bi_dk70 : (List.range' 0 46).all (fun pc => bi_dq bi_c70 cX6_init pc) = true := by decide +kernel
theorem bi_dp70 : bi_dP 70 := bi_dgen (f := bi_c70) (cc := cX6_init) (n := 46) rfl rfl rfl (fun pc h => bi_drg bi_dk70 pc (Nat.zero_le _) (by omega))
theorem bi_dk71 : (List.range' 0 41).all (fun pc => bi_dq bi_c71 cX6_clear pc) = true := by decide +kernel
theorem bi_dp71 : bi_dP 71 := bi_dgen (f := bi_c71) (cc := cX6_clear) (n := 41) rfl rfl rfl (fun pc h => bi_drg bi_dk71 pc (Nat.zero_le _) (by omega))
theorem bi_dk72 : (List.range' 0 117).all (fun pc => bi_dq bi_c72 cX6_copyFrom pc) = true := by decide +kernel
theorem bi_dp72 : bi_dP 72 := bi_dgen (f := bi_c72) (cc := cX6_copyFrom) (n := 117) rfl rfl rfl (fun pc h => bi_drg bi_dk72 pc (Nat.zero_le _) (by omega))
theorem bi_dk73 : (List.range' 0 25).all (fun pc => bi_dq bi_c73 cX6_isCell pc) = true := by decide +kernel
theorem bi_dp73 : bi_dP 73 := bi_dgen (f := bi_c73) (cc := cX6_isCell) (n := 25) rfl rfl rfl (fun pc h => bi_drg bi_dk73 pc (Nat.zero_le _) (by omega))
theorem bi_dk74 : (List.range' 0 24).all (fun pc => bi_dq bi_c74 cX6_numberAt pc) = true := by decide +kernel
theorem bi_dp74 : bi_dP 74 := bi_dgen (f := bi_c74) (cc := cX6_numberAt) (n := 24) rfl rfl rfl (fun pc h => bi_drg bi_dk74 pc (Nat.zero_le _) (by omega))
theorem bi_dk75 : (List.range' 0 21).all (fun pc => bi_dq bi_c75 cX6_setNumber pc) = true := by decide +kernel
theorem bi_dp75 : bi_dP 75 := bi_dgen (f := bi_c75) (cc := cX6_setNumber) (n := 21) rfl rfl rfl (fun pc h => bi_drg bi_dk75 pc (Nat.zero_le _) (by omega))
theorem bi_dk76 : (List.range' 0 74).all (fun pc => bi_dq bi_c76 cX6_noteAct pc) = true := by decide +kernel
theorem bi_dp76 : bi_dP 76 := bi_dgen (f := bi_c76) (cc := cX6_noteAct) (n := 74) rfl rfl rfl (fun pc h => bi_drg bi_dk76 pc (Nat.zero_le _) (by omega))
theorem bi_dk77 : (List.range' 0 53).all (fun pc => bi_dq bi_c77 cX6_noteInsert pc) = true := by decide +kernel
theorem bi_dp77 : bi_dP 77 := bi_dgen (f := bi_c77) (cc := cX6_noteInsert) (n := 53) rfl rfl rfl (fun pc h => bi_drg bi_dk77 pc (Nat.zero_le _) (by omega))
theorem bi_dk78 : (List.range' 0 39).all (fun pc => bi_dq bi_c78 cX6_noteUpdate pc) = true := by decide +kernel
theorem bi_dp78 : bi_dP 78 := bi_dgen (f := bi_c78) (cc := cX6_noteUpdate) (n := 39) rfl rfl rfl (fun pc h => bi_drg bi_dk78 pc (Nat.zero_le _) (by omega))
theorem bi_dk79 : (List.range' 0 72).all (fun pc => bi_dq bi_c79 cX6_noteDelete pc) = true := by decide +kernel
theorem bi_dp79 : bi_dP 79 := bi_dgen (f := bi_c79) (cc := cX6_noteDelete) (n := 72) rfl rfl rfl (fun pc h => bi_drg bi_dk79 pc (Nat.zero_le _) (by omega))
theorem bi_dk80 : (List.range' 0 27).all (fun pc => bi_dq bi_c80 cX6_noteGift pc) = true := by decide +kernel
theorem bi_dp80 : bi_dP 80 := bi_dgen (f := bi_c80) (cc := cX6_noteGift) (n := 27) rfl rfl rfl (fun pc h => bi_drg bi_dk80 pc (Nat.zero_le _) (by omega))
theorem bi_dk81 : (List.range' 0 20).all (fun pc => bi_dq bi_c81 cX6_noteSwitch pc) = true := by decide +kernel
theorem bi_dp81 : bi_dP 81 := bi_dgen (f := bi_c81) (cc := cX6_noteSwitch) (n := 20) rfl rfl rfl (fun pc h => bi_drg bi_dk81 pc (Nat.zero_le _) (by omega))
theorem bi_dk82 : (List.range' 0 168).all (fun pc => bi_dq bi_c82 cX6_takeBack pc) = true := by decide +kernel
theorem bi_dp82 : bi_dP 82 := bi_dgen (f := bi_c82) (cc := cX6_takeBack) (n := 168) rfl rfl rfl (fun pc h => bi_drg bi_dk82 pc (Nat.zero_le _) (by omega))
theorem bi_dk83 : (List.range' 0 74).all (fun pc => bi_dq bi_c83 cX6_bringBack pc) = true := by decide +kernel
theorem bi_dp83 : bi_dP 83 := bi_dgen (f := bi_c83) (cc := cX6_bringBack) (n := 74) rfl rfl rfl (fun pc h => bi_drg bi_dk83 pc (Nat.zero_le _) (by omega))
theorem bi_dk84 : (List.range' 0 66).all (fun pc => bi_dq bi_c84 cX6_noteSeen pc) = true := by decide +kernel
theorem bi_dp84 : bi_dP 84 := bi_dgen (f := bi_c84) (cc := cX6_noteSeen) (n := 66) rfl rfl rfl (fun pc h => bi_drg bi_dk84 pc (Nat.zero_le _) (by omega))
theorem bi_dk85 : (List.range' 0 11).all (fun pc => bi_dq bi_c85 cX6_forgetSeen pc) = true := by decide +kernel
theorem bi_dp85 : bi_dP 85 := bi_dgen (f := bi_c85) (cc := cX6_forgetSeen) (n := 11) rfl rfl rfl (fun pc h => bi_drg bi_dk85 pc (Nat.zero_le _) (by omega))
theorem bi_dk86 : (List.range' 0 5).all (fun pc => bi_dq bi_c86 cX7_init pc) = true := by decide +kernel
theorem bi_dp86 : bi_dP 86 := bi_dgen (f := bi_c86) (cc := cX7_init) (n := 5) rfl rfl rfl (fun pc h => bi_drg bi_dk86 pc (Nat.zero_le _) (by omega))
theorem bi_dk87 : (List.range' 0 41).all (fun pc => bi_dq bi_c87 cX7_set pc) = true := by decide +kernel
theorem bi_dp87 : bi_dP 87 := bi_dgen (f := bi_c87) (cc := cX7_set) (n := 41) rfl rfl rfl (fun pc h => bi_drg bi_dk87 pc (Nat.zero_le _) (by omega))
theorem bi_dk88 : (List.range' 0 24).all (fun pc => bi_dq bi_c88 cX7_follow pc) = true := by decide +kernel
theorem bi_dp88 : bi_dP 88 := bi_dgen (f := bi_c88) (cc := cX7_follow) (n := 24) rfl rfl rfl (fun pc h => bi_drg bi_dk88 pc (Nat.zero_le _) (by omega))
theorem bi_dk89 : (List.range' 0 47).all (fun pc => bi_dq bi_c89 cX7_mayGoAheadOf pc) = true := by decide +kernel
theorem bi_dp89 : bi_dP 89 := bi_dgen (f := bi_c89) (cc := cX7_mayGoAheadOf) (n := 47) rfl rfl rfl (fun pc h => bi_drg bi_dk89 pc (Nat.zero_le _) (by omega))
theorem bi_dk90 : (List.range' 0 74).all (fun pc => bi_dq bi_c90 cX7_detail pc) = true := by decide +kernel
theorem bi_dp90 : bi_dP 90 := bi_dgen (f := bi_c90) (cc := cX7_detail) (n := 74) rfl rfl rfl (fun pc h => bi_drg bi_dk90 pc (Nat.zero_le _) (by omega))
theorem bi_dk91 : (List.range' 0 14).all (fun pc => bi_dq bi_c91 cX8_init pc) = true := by decide +kernel
theorem bi_dp91 : bi_dP 91 := bi_dgen (f := bi_c91) (cc := cX8_init) (n := 14) rfl rfl rfl (fun pc h => bi_drg bi_dk91 pc (Nat.zero_le _) (by omega))
theorem bi_dk92 : (List.range' 0 47).all (fun pc => bi_dq bi_c92 cX8_put pc) = true := by decide +kernel
theorem bi_dp92 : bi_dP 92 := bi_dgen (f := bi_c92) (cc := cX8_put) (n := 47) rfl rfl rfl (fun pc h => bi_drg bi_dk92 pc (Nat.zero_le _) (by omega))
theorem bi_dk93 : (List.range' 0 42).all (fun pc => bi_dq bi_c93 cX8_begin pc) = true := by decide +kernel
theorem bi_dp93 : bi_dP 93 := bi_dgen (f := bi_c93) (cc := cX8_begin) (n := 42) rfl rfl rfl (fun pc h => bi_drg bi_dk93 pc (Nat.zero_le _) (by omega))
theorem bi_dk94 : (List.range' 0 280).all (fun pc => bi_dq bi_c94 cX8_advance pc) = true := by decide +kernel
theorem bi_dp94 : bi_dP 94 := bi_dgen (f := bi_c94) (cc := cX8_advance) (n := 280) rfl rfl rfl (fun pc h => bi_drg bi_dk94 pc (Nat.zero_le _) (by omega))
theorem bi_dk95 : (List.range' 0 75).all (fun pc => bi_dq bi_c95 cX8_workOutNumber pc) = true := by decide +kernel
theorem bi_dp95 : bi_dP 95 := bi_dgen (f := bi_c95) (cc := cX8_workOutNumber) (n := 75) rfl rfl rfl (fun pc h => bi_drg bi_dk95 pc (Nat.zero_le _) (by omega))
theorem bi_dk96 : (List.range' 0 65).all (fun pc => bi_dq bi_c96 cX8_isWord pc) = true := by decide +kernel
theorem bi_dp96 : bi_dP 96 := bi_dgen (f := bi_c96) (cc := cX8_isWord) (n := 65) rfl rfl rfl (fun pc h => bi_drg bi_dk96 pc (Nat.zero_le _) (by omega))
theorem bi_dk97 : (List.range' 0 27).all (fun pc => bi_dq bi_c97 cX8_isSign pc) = true := by decide +kernel
theorem bi_dp97 : bi_dP 97 := bi_dgen (f := bi_c97) (cc := cX8_isSign) (n := 27) rfl rfl rfl (fun pc h => bi_drg bi_dk97 pc (Nat.zero_le _) (by omega))
theorem bi_dk98 : (List.range' 0 47).all (fun pc => bi_dq bi_c98 cX8_columnNamed pc) = true := by decide +kernel
theorem bi_dp98 : bi_dP 98 := bi_dgen (f := bi_c98) (cc := cX8_columnNamed) (n := 47) rfl rfl rfl (fun pc h => bi_drg bi_dk98 pc (Nat.zero_le _) (by omega))
theorem bi_dk99 : (List.range' 0 15).all (fun pc => bi_dq bi_c99 cX8_refuse pc) = true := by decide +kernel
theorem bi_dp99 : bi_dP 99 := bi_dgen (f := bi_c99) (cc := cX8_refuse) (n := 15) rfl rfl rfl (fun pc h => bi_drg bi_dk99 pc (Nat.zero_le _) (by omega))
theorem bi_dk100 : (List.range' 0 20).all (fun pc => bi_dq bi_c100 cX8_passSign pc) = true := by decide +kernel
theorem bi_dp100 : bi_dP 100 := bi_dgen (f := bi_c100) (cc := cX8_passSign) (n := 20) rfl rfl rfl (fun pc h => bi_drg bi_dk100 pc (Nat.zero_le _) (by omega))
theorem bi_dk101 : (List.range' 0 49).all (fun pc => bi_dq bi_c101 cX8_needNumber pc) = true := by decide +kernel
theorem bi_dp101 : bi_dP 101 := bi_dgen (f := bi_c101) (cc := cX8_needNumber) (n := 49) rfl rfl rfl (fun pc h => bi_drg bi_dk101 pc (Nat.zero_le _) (by omega))
theorem bi_dk102 : (List.range' 0 36).all (fun pc => bi_dq bi_c102 cX9_init pc) = true := by decide +kernel
theorem bi_dp102 : bi_dP 102 := bi_dgen (f := bi_c102) (cc := cX9_init) (n := 36) rfl rfl rfl (fun pc h => bi_drg bi_dk102 pc (Nat.zero_le _) (by omega))
theorem bi_dk103 : (List.range' 0 105).all (fun pc => bi_dq bi_c103 cX9_readConditions pc) = true := by decide +kernel
theorem bi_dp103 : bi_dP 103 := bi_dgen (f := bi_c103) (cc := cX9_readConditions) (n := 105) rfl rfl rfl (fun pc h => bi_drg bi_dk103 pc (Nat.zero_le _) (by omega))
theorem bi_dk104 : (List.range' 0 239).all (fun pc => bi_dq bi_c104 cX9_readText pc) = true := by decide +kernel
theorem bi_dp104 : bi_dP 104 := bi_dgen (f := bi_c104) (cc := cX9_readText) (n := 239) rfl rfl rfl (fun pc h => bi_drg bi_dk104 pc (Nat.zero_le _) (by omega))
theorem bi_dk105 : (List.range' 0 72).all (fun pc => bi_dq bi_c105 cX9_readColumns pc) = true := by decide +kernel
theorem bi_dp105 : bi_dP 105 := bi_dgen (f := bi_c105) (cc := cX9_readColumns) (n := 72) rfl rfl rfl (fun pc h => bi_drg bi_dk105 pc (Nat.zero_le _) (by omega))
theorem bi_dk106 : (List.range' 0 115).all (fun pc => bi_dq bi_c106 cX9_readRole pc) = true := by decide +kernel
theorem bi_dp106 : bi_dP 106 := bi_dgen (f := bi_c106) (cc := cX9_readRole) (n := 115) rfl rfl rfl (fun pc h => bi_drg bi_dk106 pc (Nat.zero_le _) (by omega))
theorem bi_dk107 : (List.range' 0 138).all (fun pc => bi_dq bi_c107 cX9_readRow pc) = true := by decide +kernel
theorem bi_dp107 : bi_dP 107 := bi_dgen (f := bi_c107) (cc := cX9_readRow) (n := 138) rfl rfl rfl (fun pc h => bi_drg bi_dk107 pc (Nat.zero_le _) (by omega))
theorem bi_dk108 : (List.range' 0 190).all (fun pc => bi_dq bi_c108 cX9_readPolicy pc) = true := by decide +kernel
theorem bi_dp108 : bi_dP 108 := bi_dgen (f := bi_c108) (cc := cX9_readPolicy) (n := 190) rfl rfl rfl (fun pc h => bi_drg bi_dk108 pc (Nat.zero_le _) (by omega))
theorem bi_dk109 : (List.range' 0 149).all (fun pc => bi_dq bi_c109 cX9_readWhose pc) = true := by decide +kernel
theorem bi_dp109 : bi_dP 109 := bi_dgen (f := bi_c109) (cc := cX9_readWhose) (n := 149) rfl rfl rfl (fun pc h => bi_drg bi_dk109 pc (Nat.zero_le _) (by omega))
theorem bi_dk110 : (List.range' 0 74).all (fun pc => bi_dq bi_c110 cX9_commandNamed pc) = true := by decide +kernel
theorem bi_dp110 : bi_dP 110 := bi_dgen (f := bi_c110) (cc := cX9_commandNamed) (n := 74) rfl rfl rfl (fun pc h => bi_drg bi_dk110 pc (Nat.zero_le _) (by omega))
theorem bi_dk111 : (List.range' 0 187).all (fun pc => bi_dq bi_c111 cX9_readView pc) = true := by decide +kernel
theorem bi_dp111 : bi_dP 111 := bi_dgen (f := bi_c111) (cc := cX9_readView) (n := 187) rfl rfl rfl (fun pc h => bi_drg bi_dk111 pc (Nat.zero_le _) (by omega))
theorem bi_dk112 : (List.range' 0 106).all (fun pc => bi_dq bi_c112 cX9_readOwner pc) = true := by decide +kernel
theorem bi_dp112 : bi_dP 112 := bi_dgen (f := bi_c112) (cc := cX9_readOwner) (n := 106) rfl rfl rfl (fun pc h => bi_drg bi_dk112 pc (Nat.zero_le _) (by omega))
theorem bi_dk113 : (List.range' 0 72).all (fun pc => bi_dq bi_c113 cX9_readOf pc) = true := by decide +kernel
theorem bi_dp113 : bi_dP 113 := bi_dgen (f := bi_c113) (cc := cX9_readOf) (n := 72) rfl rfl rfl (fun pc h => bi_drg bi_dk113 pc (Nat.zero_le _) (by omega))
theorem bi_dk114 : (List.range' 0 10).all (fun pc => bi_dq bi_c114 cX10_init pc) = true := by decide +kernel
theorem bi_dp114 : bi_dP 114 := bi_dgen (f := bi_c114) (cc := cX10_init) (n := 10) rfl rfl rfl (fun pc h => bi_drg bi_dk114 pc (Nat.zero_le _) (by omega))
theorem bi_dk115 : (List.range' 0 18).all (fun pc => bi_dq bi_c115 cX10_isNumber pc) = true := by decide +kernel
theorem bi_dp115 : bi_dP 115 := bi_dgen (f := bi_c115) (cc := cX10_isNumber) (n := 18) rfl rfl rfl (fun pc h => bi_drg bi_dk115 pc (Nat.zero_le _) (by omega))
theorem bi_dk116 : (List.range' 0 108).all (fun pc => bi_dq bi_c116 cX10_putLine pc) = true := by decide +kernel
theorem bi_dp116 : bi_dP 116 := bi_dgen (f := bi_c116) (cc := cX10_putLine) (n := 108) rfl rfl rfl (fun pc h => bi_drg bi_dk116 pc (Nat.zero_le _) (by omega))
theorem bi_dk117 : (List.range' 0 72).all (fun pc => bi_dq bi_c117 cX10_change pc) = true := by decide +kernel
theorem bi_dp117 : bi_dP 117 := bi_dgen (f := bi_c117) (cc := cX10_change) (n := 72) rfl rfl rfl (fun pc h => bi_drg bi_dk117 pc (Nat.zero_le _) (by omega))
theorem bi_dk118 : (List.range' 0 25).all (fun pc => bi_dq bi_c118 cX10_drop pc) = true := by decide +kernel
theorem bi_dp118 : bi_dP 118 := bi_dgen (f := bi_c118) (cc := cX10_drop) (n := 25) rfl rfl rfl (fun pc h => bi_drg bi_dk118 pc (Nat.zero_le _) (by omega))
theorem bi_dk119 : (List.range' 0 66).all (fun pc => bi_dq bi_c119 cX10_canReach pc) = true := by decide +kernel
theorem bi_dp119 : bi_dP 119 := bi_dgen (f := bi_c119) (cc := cX10_canReach) (n := 66) rfl rfl rfl (fun pc h => bi_drg bi_dk119 pc (Nat.zero_le _) (by omega))
theorem bi_dk120 : (List.range' 0 156).all (fun pc => bi_dq bi_c120 cX10_passYear pc) = true := by decide +kernel
theorem bi_dp120 : bi_dP 120 := bi_dgen (f := bi_c120) (cc := cX10_passYear) (n := 156) rfl rfl rfl (fun pc h => bi_drg bi_dk120 pc (Nat.zero_le _) (by omega))
theorem bi_dk121 : (List.range' 0 37).all (fun pc => bi_dq bi_c121 cX10_draw pc) = true := by decide +kernel
theorem bi_dp121 : bi_dP 121 := bi_dgen (f := bi_c121) (cc := cX10_draw) (n := 37) rfl rfl rfl (fun pc h => bi_drg bi_dk121 pc (Nat.zero_le _) (by omega))
