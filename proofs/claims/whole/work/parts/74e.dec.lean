theorem bi_dk294_1400 : (List.range' 1400 100).all (fun pc => bi_dq bi_c294 cL_law pc) = true := by decide +kernel
theorem bi_dk294_1500 : (List.range' 1500 100).all (fun pc => bi_dq bi_c294 cL_law pc) = true := by decide +kernel
