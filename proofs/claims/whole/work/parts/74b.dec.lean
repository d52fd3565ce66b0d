theorem bi_dk294_700 : (List.range' 700 100).all (fun pc => bi_dq bi_c294 cL_law pc) = true := by decide +kernel
theorem bi_dk294_800 : (List.range' 800 100).all (fun pc => bi_dq bi_c294 cL_law pc) = true := by decide +kernel
theorem bi_dk294_900 : (List.range' 900 100).all (fun pc => bi_dq bi_c294 cL_law pc) = true := by decide +kernel
