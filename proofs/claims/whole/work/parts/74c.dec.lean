theorem bi_dk294_1000 : (List.range' 1000 100).all (fun pc => bi_dq bi_c294 cL_law pc) = true := by decide +kernel
theorem bi_dk294_1100 : (List.range' 1100 100).all (fun pc => bi_dq bi_c294 cL_law pc) = true := by decide +kernel
