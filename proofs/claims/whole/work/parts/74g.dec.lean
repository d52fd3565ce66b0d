theorem bi_dk294_1800 : (List.range' 1800 100).all (fun pc => bi_dq bi_c294 cL_law pc) = true := by decide +kernel
theorem bi_dk294_1900 : (List.range' 1900 100).all (fun pc => bi_dq bi_c294 cL_law pc) = true := by decide +kernel
