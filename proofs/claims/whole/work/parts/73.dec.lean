theorem bi_dk257 : (List.range' 0 11).all (fun pc => bi_dq bi_c257 cX12_forget pc) = true := by decide +kernel
theorem bi_dp257 : bi_dP 257 := bi_dgen (f := bi_c257) (cc := cX12_forget) (n := 11) rfl rfl rfl (fun pc h => bi_drg bi_dk257 pc (Nat.zero_le _) (by omega))
theorem bi_dk258 : (List.range' 0 80).all (fun pc => bi_dq bi_c258 cX12_isSeen pc) = true := by decide +kernel
theorem bi_dp258 : bi_dP 258 := bi_dgen (f := bi_c258) (cc := cX12_isSeen) (n := 80) rfl rfl rfl (fun pc h => bi_drg bi_dk258 pc (Nat.zero_le _) (by omega))
theorem bi_dk259 : (List.range' 0 44).all (fun pc => bi_dq bi_c259 cX12_isGuess pc) = true := by decide +kernel
theorem bi_dp259 : bi_dP 259 := bi_dgen (f := bi_c259) (cc := cX12_isGuess) (n := 44) rfl rfl rfl (fun pc h => bi_drg bi_dk259 pc (Nat.zero_le _) (by omega))
theorem bi_dk260 : (List.range' 0 139).all (fun pc => bi_dq bi_c260 cX12_meant pc) = true := by decide +kernel
theorem bi_dp260 : bi_dP 260 := bi_dgen (f := bi_c260) (cc := cX12_meant) (n := 139) rfl rfl rfl (fun pc h => bi_drg bi_dk260 pc (Nat.zero_le _) (by omega))
theorem bi_dk261 : (List.range' 0 272).all (fun pc => bi_dq bi_c261 cX12_look pc) = true := by decide +kernel
theorem bi_dp261 : bi_dP 261 := bi_dgen (f := bi_c261) (cc := cX12_look) (n := 272) rfl rfl rfl (fun pc h => bi_drg bi_dk261 pc (Nat.zero_le _) (by omega))
theorem bi_dk262 : (List.range' 0 178).all (fun pc => bi_dq bi_c262 cX12_lapses pc) = true := by decide +kernel
theorem bi_dp262 : bi_dP 262 := bi_dgen (f := bi_c262) (cc := cX12_lapses) (n := 178) rfl rfl rfl (fun pc h => bi_drg bi_dk262 pc (Nat.zero_le _) (by omega))
theorem bi_dk263 : (List.range' 0 30).all (fun pc => bi_dq bi_c263 cX12_draw pc) = true := by decide +kernel
theorem bi_dp263 : bi_dP 263 := bi_dgen (f := bi_c263) (cc := cX12_draw) (n := 30) rfl rfl rfl (fun pc h => bi_drg bi_dk263 pc (Nat.zero_le _) (by omega))
theorem bi_dk264 : (List.range' 0 205).all (fun pc => bi_dq bi_c264 cX12_happens pc) = true := by decide +kernel
theorem bi_dp264 : bi_dP 264 := bi_dgen (f := bi_c264) (cc := cX12_happens) (n := 205) rfl rfl rfl (fun pc h => bi_drg bi_dk264 pc (Nat.zero_le _) (by omega))
theorem bi_dk265 : (List.range' 0 113).all (fun pc => bi_dq bi_c265 cX12_years pc) = true := by decide +kernel
theorem bi_dp265 : bi_dP 265 := bi_dgen (f := bi_c265) (cc := cX12_years) (n := 113) rfl rfl rfl (fun pc h => bi_drg bi_dk265 pc (Nat.zero_le _) (by omega))
theorem bi_dk266 : (List.range' 0 77).all (fun pc => bi_dq bi_c266 cX12_image pc) = true := by decide +kernel
theorem bi_dp266 : bi_dP 266 := bi_dgen (f := bi_c266) (cc := cX12_image) (n := 77) rfl rfl rfl (fun pc h => bi_drg bi_dk266 pc (Nat.zero_le _) (by omega))
theorem bi_dk267 : (List.range' 0 82).all (fun pc => bi_dq bi_c267 cX12_restore pc) = true := by decide +kernel
theorem bi_dp267 : bi_dP 267 := bi_dgen (f := bi_c267) (cc := cX12_restore) (n := 82) rfl rfl rfl (fun pc h => bi_drg bi_dk267 pc (Nat.zero_le _) (by omega))
theorem bi_dk268 : (List.range' 0 53).all (fun pc => bi_dq bi_c268 cJ6_bitCount_0f7a4 pc) = true := by decide +kernel
theorem bi_dp268 : bi_dP 268 := bi_dgen (f := bi_c268) (cc := cJ6_bitCount_0f7a4) (n := 53) rfl rfl rfl (fun pc h => bi_drg bi_dk268 pc (Nat.zero_le _) (by omega))
theorem bi_dk269 : (List.range' 0 11).all (fun pc => bi_dq bi_c269 cJ9_max_7cf53 pc) = true := by decide +kernel
theorem bi_dp269 : bi_dP 269 := bi_dgen (f := bi_c269) (cc := cJ9_max_7cf53) (n := 11) rfl rfl rfl (fun pc h => bi_drg bi_dk269 pc (Nat.zero_le _) (by omega))
theorem bi_dk270 : (List.range' 0 11).all (fun pc => bi_dq bi_c270 cJ9_min_7cf53 pc) = true := by decide +kernel
theorem bi_dp270 : bi_dP 270 := bi_dgen (f := bi_c270) (cc := cJ9_min_7cf53) (n := 11) rfl rfl rfl (fun pc h => bi_drg bi_dk270 pc (Nat.zero_le _) (by omega))
theorem bi_dk271 : (List.range' 0 17).all (fun pc => bi_dq bi_c271 cL_tell pc) = true := by decide +kernel
theorem bi_dp271 : bi_dP 271 := bi_dgen (f := bi_c271) (cc := cL_tell) (n := 17) rfl rfl rfl (fun pc h => bi_drg bi_dk271 pc (Nat.zero_le _) (by omega))
theorem bi_dk272 : (List.range' 0 25).all (fun pc => bi_dq bi_c272 cL_query pc) = true := by decide +kernel
theorem bi_dp272 : bi_dP 272 := bi_dgen (f := bi_c272) (cc := cL_query) (n := 25) rfl rfl rfl (fun pc h => bi_drg bi_dk272 pc (Nat.zero_le _) (by omega))
theorem bi_dk273 : (List.range' 0 17).all (fun pc => bi_dq bi_c273 cL_count pc) = true := by decide +kernel
theorem bi_dp273 : bi_dP 273 := bi_dgen (f := bi_c273) (cc := cL_count) (n := 17) rfl rfl rfl (fun pc h => bi_drg bi_dk273 pc (Nat.zero_le _) (by omega))
theorem bi_dk274 : (List.range' 0 19).all (fun pc => bi_dq bi_c274 cL_role pc) = true := by decide +kernel
theorem bi_dp274 : bi_dP 274 := bi_dgen (f := bi_c274) (cc := cL_role) (n := 19) rfl rfl rfl (fun pc h => bi_drg bi_dk274 pc (Nat.zero_le _) (by omega))
theorem bi_dk275 : (List.range' 0 19).all (fun pc => bi_dq bi_c275 cL_cell pc) = true := by decide +kernel
theorem bi_dp275 : bi_dP 275 := bi_dgen (f := bi_c275) (cc := cL_cell) (n := 19) rfl rfl rfl (fun pc h => bi_drg bi_dk275 pc (Nat.zero_le _) (by omega))
theorem bi_dk276 : (List.range' 0 19).all (fun pc => bi_dq bi_c276 cL_policy pc) = true := by decide +kernel
theorem bi_dp276 : bi_dP 276 := bi_dgen (f := bi_c276) (cc := cL_policy) (n := 19) rfl rfl rfl (fun pc h => bi_drg bi_dk276 pc (Nat.zero_le _) (by omega))
theorem bi_dk277 : (List.range' 0 19).all (fun pc => bi_dq bi_c277 cL_view pc) = true := by decide +kernel
theorem bi_dp277 : bi_dP 277 := bi_dgen (f := bi_c277) (cc := cL_view) (n := 19) rfl rfl rfl (fun pc h => bi_drg bi_dk277 pc (Nat.zero_le _) (by omega))
theorem bi_dk278 : (List.range' 0 17).all (fun pc => bi_dq bi_c278 cL_asked pc) = true := by decide +kernel
theorem bi_dp278 : bi_dP 278 := bi_dgen (f := bi_c278) (cc := cL_asked) (n := 17) rfl rfl rfl (fun pc h => bi_drg bi_dk278 pc (Nat.zero_le _) (by omega))
theorem bi_dk279 : (List.range' 0 19).all (fun pc => bi_dq bi_c279 cL_step pc) = true := by decide +kernel
theorem bi_dp279 : bi_dP 279 := bi_dgen (f := bi_c279) (cc := cL_step) (n := 19) rfl rfl rfl (fun pc h => bi_drg bi_dk279 pc (Nat.zero_le _) (by omega))
theorem bi_dk280 : (List.range' 0 25).all (fun pc => bi_dq bi_c280 cL_insert pc) = true := by decide +kernel
theorem bi_dp280 : bi_dP 280 := bi_dgen (f := bi_c280) (cc := cL_insert) (n := 25) rfl rfl rfl (fun pc h => bi_drg bi_dk280 pc (Nat.zero_le _) (by omega))
theorem bi_dk281 : (List.range' 0 23).all (fun pc => bi_dq bi_c281 cL_update pc) = true := by decide +kernel
theorem bi_dp281 : bi_dP 281 := bi_dgen (f := bi_c281) (cc := cL_update) (n := 23) rfl rfl rfl (fun pc h => bi_drg bi_dk281 pc (Nat.zero_le _) (by omega))
theorem bi_dk282 : (List.range' 0 19).all (fun pc => bi_dq bi_c282 cL_delete pc) = true := by decide +kernel
theorem bi_dp282 : bi_dP 282 := bi_dgen (f := bi_c282) (cc := cL_delete) (n := 19) rfl rfl rfl (fun pc h => bi_drg bi_dk282 pc (Nat.zero_le _) (by omega))
theorem bi_dk283 : (List.range' 0 28).all (fun pc => bi_dq bi_c283 cL_grant pc) = true := by decide +kernel
theorem bi_dp283 : bi_dP 283 := bi_dgen (f := bi_c283) (cc := cL_grant) (n := 28) rfl rfl rfl (fun pc h => bi_drg bi_dk283 pc (Nat.zero_le _) (by omega))
theorem bi_dk284 : (List.range' 0 26).all (fun pc => bi_dq bi_c284 cL_turn pc) = true := by decide +kernel
theorem bi_dp284 : bi_dP 284 := bi_dgen (f := bi_c284) (cc := cL_turn) (n := 26) rfl rfl rfl (fun pc h => bi_drg bi_dk284 pc (Nat.zero_le _) (by omega))
theorem bi_dk285 : (List.range' 0 17).all (fun pc => bi_dq bi_c285 cL_readers pc) = true := by decide +kernel
theorem bi_dp285 : bi_dP 285 := bi_dgen (f := bi_c285) (cc := cL_readers) (n := 17) rfl rfl rfl (fun pc h => bi_drg bi_dk285 pc (Nat.zero_le _) (by omega))
theorem bi_dk286 : (List.range' 0 19).all (fun pc => bi_dq bi_c286 cL_toSee pc) = true := by decide +kernel
theorem bi_dp286 : bi_dP 286 := bi_dgen (f := bi_c286) (cc := cL_toSee) (n := 19) rfl rfl rfl (fun pc h => bi_drg bi_dk286 pc (Nat.zero_le _) (by omega))
theorem bi_dk287 : (List.range' 0 19).all (fun pc => bi_dq bi_c287 cL_escapes pc) = true := by decide +kernel
theorem bi_dp287 : bi_dP 287 := bi_dgen (f := bi_c287) (cc := cL_escapes) (n := 19) rfl rfl rfl (fun pc h => bi_drg bi_dk287 pc (Nat.zero_le _) (by omega))
theorem bi_dk288 : (List.range' 0 21).all (fun pc => bi_dq bi_c288 cL_may pc) = true := by decide +kernel
theorem bi_dp288 : bi_dP 288 := bi_dgen (f := bi_c288) (cc := cL_may) (n := 21) rfl rfl rfl (fun pc h => bi_drg bi_dk288 pc (Nat.zero_le _) (by omega))
theorem bi_dk289 : (List.range' 0 21).all (fun pc => bi_dq bi_c289 cL_see pc) = true := by decide +kernel
theorem bi_dp289 : bi_dP 289 := bi_dgen (f := bi_c289) (cc := cL_see) (n := 21) rfl rfl rfl (fun pc h => bi_drg bi_dk289 pc (Nat.zero_le _) (by omega))
theorem bi_dk290 : (List.range' 0 17).all (fun pc => bi_dq bi_c290 cL_meant pc) = true := by decide +kernel
theorem bi_dp290 : bi_dP 290 := bi_dgen (f := bi_c290) (cc := cL_meant) (n := 17) rfl rfl rfl (fun pc h => bi_drg bi_dk290 pc (Nat.zero_le _) (by omega))
theorem bi_dk291 : (List.range' 0 17).all (fun pc => bi_dq bi_c291 cL_look pc) = true := by decide +kernel
theorem bi_dp291 : bi_dP 291 := bi_dgen (f := bi_c291) (cc := cL_look) (n := 17) rfl rfl rfl (fun pc h => bi_drg bi_dk291 pc (Nat.zero_le _) (by omega))
theorem bi_dk292 : (List.range' 0 25).all (fun pc => bi_dq bi_c292 cL_lapses pc) = true := by decide +kernel
theorem bi_dp292 : bi_dP 292 := bi_dgen (f := bi_c292) (cc := cL_lapses) (n := 25) rfl rfl rfl (fun pc h => bi_drg bi_dk292 pc (Nat.zero_le _) (by omega))
theorem bi_dk293 : (List.range' 0 25).all (fun pc => bi_dq bi_c293 cL_years pc) = true := by decide +kernel
theorem bi_dp293 : bi_dP 293 := bi_dgen (f := bi_c293) (cc := cL_years) (n := 25) rfl rfl rfl (fun pc h => bi_drg bi_dk293 pc (Nat.zero_le _) (by omega))
