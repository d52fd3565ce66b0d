theorem bi_dk294_1200 : (List.range' 1200 100).all (fun pc => bi_dq bi_c294 cL_law pc) = true := by decide +kernel
theorem bi_dk294_1300 : (List.range' 1300 100).all (fun pc => bi_dq bi_c294 cL_law pc) = true := by decide +kernel
