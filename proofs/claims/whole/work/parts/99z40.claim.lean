/-! ===== the claim ===== -/
theorem i_vc : Claimed_1_1 ∧ Claimed_1_2 := bi_vc law_all
