theorem bi_dk294_0 : (List.range' 0 100).all (fun pc => bi_dq bi_c294 cL_law pc) = true := by decide +kernel
theorem bi_dk294_100 : (List.range' 100 100).all (fun pc => bi_dq bi_c294 cL_law pc) = true := by decide +kernel
theorem bi_dk294_200 : (List.range' 200 100).all (fun pc => bi_dq bi_c294 cL_law pc) = true := by decide +kernel
theorem bi_dk294_300 : (List.range' 300 100).all (fun pc => bi_dq bi_c294 cL_law pc) = true := by decide +kernel
theorem bi_dk294_400 : (List.range' 400 100).all (fun pc => bi_dq bi_c294 cL_law pc) = true := by decide +kernel
theorem bi_dk294_500 : (List.range' 500 100).all (fun pc => bi_dq bi_c294 cL_law pc) = true := by decide +kernel
theorem bi_dk294_600 : (List.range' 600 100).all (fun pc => bi_dq bi_c294 cL_law pc) = true := by decide +kernel
