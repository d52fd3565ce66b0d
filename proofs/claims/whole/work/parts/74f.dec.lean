theorem bi_dk294_1600 : (List.range' 1600 100).all (fun pc => bi_dq bi_c294 cL_law pc) = true := by decide +kernel
theorem bi_dk294_1700 : (List.range' 1700 100).all (fun pc => bi_dq bi_c294 cL_law pc) = true := by decide +kernel
