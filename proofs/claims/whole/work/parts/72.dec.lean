theorem bi_dk195 : (List.range' 0 24).all (fun pc => bi_dq bi_c195 cX12_begins pc) = true := by decide +kernel
theorem bi_dp195 : bi_dP 195 := bi_dgen (f := bi_c195) (cc := cX12_begins) (n := 24) rfl rfl rfl (fun pc h => bi_drg bi_dk195 pc (Nat.zero_le _) (by omega))
theorem bi_dk196 : (List.range' 0 72).all (fun pc => bi_dq bi_c196 cX12_readsRole pc) = true := by decide +kernel
theorem bi_dp196 : bi_dP 196 := bi_dgen (f := bi_c196) (cc := cX12_readsRole) (n := 72) rfl rfl rfl (fun pc h => bi_drg bi_dk196 pc (Nat.zero_le _) (by omega))
theorem bi_dk197 : (List.range' 0 99).all (fun pc => bi_dq bi_c197 cX12_readsRow pc) = true := by decide +kernel
theorem bi_dp197 : bi_dP 197 := bi_dgen (f := bi_c197) (cc := cX12_readsRow) (n := 99) rfl rfl rfl (fun pc h => bi_drg bi_dk197 pc (Nat.zero_le _) (by omega))
theorem bi_dk198 : (List.range' 0 214).all (fun pc => bi_dq bi_c198 cX12_readsPolicy pc) = true := by decide +kernel
theorem bi_dp198 : bi_dP 198 := bi_dgen (f := bi_c198) (cc := cX12_readsPolicy) (n := 214) rfl rfl rfl (fun pc h => bi_drg bi_dk198 pc (Nat.zero_le _) (by omega))
theorem bi_dk199 : (List.range' 0 249).all (fun pc => bi_dq bi_c199 cX12_readsView pc) = true := by decide +kernel
theorem bi_dp199 : bi_dP 199 := bi_dgen (f := bi_c199) (cc := cX12_readsView) (n := 249) rfl rfl rfl (fun pc h => bi_drg bi_dk199 pc (Nat.zero_le _) (by omega))
theorem bi_dk200 : (List.range' 0 166).all (fun pc => bi_dq bi_c200 cX12_line pc) = true := by decide +kernel
theorem bi_dp200 : bi_dP 200 := bi_dgen (f := bi_c200) (cc := cX12_line) (n := 166) rfl rfl rfl (fun pc h => bi_drg bi_dk200 pc (Nat.zero_le _) (by omega))
theorem bi_dk201 : (List.range' 0 35).all (fun pc => bi_dq bi_c201 cX12_readsFrom pc) = true := by decide +kernel
theorem bi_dp201 : bi_dP 201 := bi_dgen (f := bi_c201) (cc := cX12_readsFrom) (n := 35) rfl rfl rfl (fun pc h => bi_drg bi_dk201 pc (Nat.zero_le _) (by omega))
theorem bi_dk202 : (List.range' 0 300).all (fun pc => bi_dq bi_c202 cX12_tell pc) = true := by decide +kernel
theorem bi_dp202 : bi_dP 202 := bi_dgen (f := bi_c202) (cc := cX12_tell) (n := 300) rfl rfl rfl (fun pc h => bi_drg bi_dk202 pc (Nat.zero_le _) (by omega))
theorem bi_dk203 : (List.range' 0 10).all (fun pc => bi_dq bi_c203 cX12_fault pc) = true := by decide +kernel
theorem bi_dp203 : bi_dP 203 := bi_dgen (f := bi_c203) (cc := cX12_fault) (n := 10) rfl rfl rfl (fun pc h => bi_drg bi_dk203 pc (Nat.zero_le _) (by omega))
theorem bi_dk204 : (List.range' 0 95).all (fun pc => bi_dq bi_c204 cX12_keeps pc) = true := by decide +kernel
theorem bi_dp204 : bi_dP 204 := bi_dgen (f := bi_c204) (cc := cX12_keeps) (n := 95) rfl rfl rfl (fun pc h => bi_drg bi_dk204 pc (Nat.zero_le _) (by omega))
theorem bi_dk205 : (List.range' 0 12).all (fun pc => bi_dq bi_c205 cX12_refuses pc) = true := by decide +kernel
theorem bi_dp205 : bi_dP 205 := bi_dgen (f := bi_c205) (cc := cX12_refuses) (n := 12) rfl rfl rfl (fun pc h => bi_drg bi_dk205 pc (Nat.zero_le _) (by omega))
theorem bi_dk206 : (List.range' 0 63).all (fun pc => bi_dq bi_c206 cX12_undo pc) = true := by decide +kernel
theorem bi_dp206 : bi_dP 206 := bi_dgen (f := bi_c206) (cc := cX12_undo) (n := 63) rfl rfl rfl (fun pc h => bi_drg bi_dk206 pc (Nat.zero_le _) (by omega))
theorem bi_dk207 : (List.range' 0 30).all (fun pc => bi_dq bi_c207 cX12_tries pc) = true := by decide +kernel
theorem bi_dp207 : bi_dP 207 := bi_dgen (f := bi_c207) (cc := cX12_tries) (n := 30) rfl rfl rfl (fun pc h => bi_drg bi_dk207 pc (Nat.zero_le _) (by omega))
theorem bi_dk208 : (List.range' 0 66).all (fun pc => bi_dq bi_c208 cX12_hasOf pc) = true := by decide +kernel
theorem bi_dp208 : bi_dP 208 := bi_dgen (f := bi_c208) (cc := cX12_hasOf) (n := 66) rfl rfl rfl (fun pc h => bi_drg bi_dk208 pc (Nat.zero_le _) (by omega))
theorem bi_dk209 : (List.range' 0 127).all (fun pc => bi_dq bi_c209 cX12_works pc) = true := by decide +kernel
theorem bi_dp209 : bi_dP 209 := bi_dgen (f := bi_c209) (cc := cX12_works) (n := 127) rfl rfl rfl (fun pc h => bi_drg bi_dk209 pc (Nat.zero_le _) (by omega))
theorem bi_dk210 : (List.range' 0 250).all (fun pc => bi_dq bi_c210 cX12_doesHold pc) = true := by decide +kernel
theorem bi_dp210 : bi_dP 210 := bi_dgen (f := bi_c210) (cc := cX12_doesHold) (n := 250) rfl rfl rfl (fun pc h => bi_drg bi_dk210 pc (Nat.zero_le _) (by omega))
theorem bi_dk211 : (List.range' 0 18).all (fun pc => bi_dq bi_c211 cX12_laysUser pc) = true := by decide +kernel
theorem bi_dp211 : bi_dP 211 := bi_dgen (f := bi_c211) (cc := cX12_laysUser) (n := 18) rfl rfl rfl (fun pc h => bi_drg bi_dk211 pc (Nat.zero_le _) (by omega))
theorem bi_dk212 : (List.range' 0 35).all (fun pc => bi_dq bi_c212 cX12_laysRow pc) = true := by decide +kernel
theorem bi_dp212 : bi_dP 212 := bi_dgen (f := bi_c212) (cc := cX12_laysRow) (n := 35) rfl rfl rfl (fun pc h => bi_drg bi_dk212 pc (Nat.zero_le _) (by omega))
theorem bi_dk213 : (List.range' 0 81).all (fun pc => bi_dq bi_c213 cX12_isOf pc) = true := by decide +kernel
theorem bi_dp213 : bi_dP 213 := bi_dgen (f := bi_c213) (cc := cX12_isOf) (n := 81) rfl rfl rfl (fun pc h => bi_drg bi_dk213 pc (Nat.zero_le _) (by omega))
theorem bi_dk214 : (List.range' 0 38).all (fun pc => bi_dq bi_c214 cX12_asksAt pc) = true := by decide +kernel
theorem bi_dp214 : bi_dP 214 := bi_dgen (f := bi_c214) (cc := cX12_asksAt) (n := 38) rfl rfl rfl (fun pc h => bi_drg bi_dk214 pc (Nat.zero_le _) (by omega))
theorem bi_dk215 : (List.range' 0 145).all (fun pc => bi_dq bi_c215 cX12_doLet pc) = true := by decide +kernel
theorem bi_dp215 : bi_dP 215 := bi_dgen (f := bi_c215) (cc := cX12_doLet) (n := 145) rfl rfl rfl (fun pc h => bi_drg bi_dk215 pc (Nat.zero_le _) (by omega))
theorem bi_dk216 : (List.range' 0 20).all (fun pc => bi_dq bi_c216 cX12_doesRead pc) = true := by decide +kernel
theorem bi_dp216 : bi_dP 216 := bi_dgen (f := bi_c216) (cc := cX12_doesRead) (n := 20) rfl rfl rfl (fun pc h => bi_drg bi_dk216 pc (Nat.zero_le _) (by omega))
theorem bi_dk217 : (List.range' 0 49).all (fun pc => bi_dq bi_c217 cX12_readsOf pc) = true := by decide +kernel
theorem bi_dp217 : bi_dP 217 := bi_dgen (f := bi_c217) (cc := cX12_readsOf) (n := 49) rfl rfl rfl (fun pc h => bi_drg bi_dk217 pc (Nat.zero_le _) (by omega))
theorem bi_dk218 : (List.range' 0 32).all (fun pc => bi_dq bi_c218 cX12_sights pc) = true := by decide +kernel
theorem bi_dp218 : bi_dP 218 := bi_dgen (f := bi_c218) (cc := cX12_sights) (n := 32) rfl rfl rfl (fun pc h => bi_drg bi_dk218 pc (Nat.zero_le _) (by omega))
theorem bi_dk219 : (List.range' 0 91).all (fun pc => bi_dq bi_c219 cX12_weight pc) = true := by decide +kernel
theorem bi_dp219 : bi_dP 219 := bi_dgen (f := bi_c219) (cc := cX12_weight) (n := 91) rfl rfl rfl (fun pc h => bi_drg bi_dk219 pc (Nat.zero_le _) (by omega))
theorem bi_dk220 : (List.range' 0 53).all (fun pc => bi_dq bi_c220 cX12_needless pc) = true := by decide +kernel
theorem bi_dp220 : bi_dP 220 := bi_dgen (f := bi_c220) (cc := cX12_needless) (n := 53) rfl rfl rfl (fun pc h => bi_drg bi_dk220 pc (Nat.zero_le _) (by omega))
theorem bi_dk221 : (List.range' 0 140).all (fun pc => bi_dq bi_c221 cX12_count pc) = true := by decide +kernel
theorem bi_dp221 : bi_dP 221 := bi_dgen (f := bi_c221) (cc := cX12_count) (n := 140) rfl rfl rfl (fun pc h => bi_drg bi_dk221 pc (Nat.zero_le _) (by omega))
theorem bi_dk222 : (List.range' 0 23).all (fun pc => bi_dq bi_c222 cX12_isRole pc) = true := by decide +kernel
theorem bi_dp222 : bi_dP 222 := bi_dgen (f := bi_c222) (cc := cX12_isRole) (n := 23) rfl rfl rfl (fun pc h => bi_drg bi_dk222 pc (Nat.zero_le _) (by omega))
theorem bi_dk223 : (List.range' 0 26).all (fun pc => bi_dq bi_c223 cX12_isRow pc) = true := by decide +kernel
theorem bi_dp223 : bi_dP 223 := bi_dgen (f := bi_c223) (cc := cX12_isRow) (n := 26) rfl rfl rfl (fun pc h => bi_drg bi_dk223 pc (Nat.zero_le _) (by omega))
theorem bi_dk224 : (List.range' 0 12).all (fun pc => bi_dq bi_c224 cX12_isWhat pc) = true := by decide +kernel
theorem bi_dp224 : bi_dP 224 := bi_dgen (f := bi_c224) (cc := cX12_isWhat) (n := 12) rfl rfl rfl (fun pc h => bi_drg bi_dk224 pc (Nat.zero_le _) (by omega))
theorem bi_dk225 : (List.range' 0 46).all (fun pc => bi_dq bi_c225 cX12_policiesOf pc) = true := by decide +kernel
theorem bi_dp225 : bi_dP 225 := bi_dgen (f := bi_c225) (cc := cX12_policiesOf) (n := 46) rfl rfl rfl (fun pc h => bi_drg bi_dk225 pc (Nat.zero_le _) (by omega))
theorem bi_dk226 : (List.range' 0 71).all (fun pc => bi_dq bi_c226 cX12_role pc) = true := by decide +kernel
theorem bi_dp226 : bi_dP 226 := bi_dgen (f := bi_c226) (cc := cX12_role) (n := 71) rfl rfl rfl (fun pc h => bi_drg bi_dk226 pc (Nat.zero_le _) (by omega))
theorem bi_dk227 : (List.range' 0 48).all (fun pc => bi_dq bi_c227 cX12_cell pc) = true := by decide +kernel
theorem bi_dp227 : bi_dP 227 := bi_dgen (f := bi_c227) (cc := cX12_cell) (n := 48) rfl rfl rfl (fun pc h => bi_drg bi_dk227 pc (Nat.zero_le _) (by omega))
theorem bi_dk228 : (List.range' 0 127).all (fun pc => bi_dq bi_c228 cX12_policy pc) = true := by decide +kernel
theorem bi_dp228 : bi_dP 228 := bi_dgen (f := bi_c228) (cc := cX12_policy) (n := 127) rfl rfl rfl (fun pc h => bi_drg bi_dk228 pc (Nat.zero_le _) (by omega))
theorem bi_dk229 : (List.range' 0 74).all (fun pc => bi_dq bi_c229 cX12_view pc) = true := by decide +kernel
theorem bi_dp229 : bi_dP 229 := bi_dgen (f := bi_c229) (cc := cX12_view) (n := 74) rfl rfl rfl (fun pc h => bi_drg bi_dk229 pc (Nat.zero_le _) (by omega))
theorem bi_dk230 : (List.range' 0 81).all (fun pc => bi_dq bi_c230 cX12_laysStep pc) = true := by decide +kernel
theorem bi_dp230 : bi_dP 230 := bi_dgen (f := bi_c230) (cc := cX12_laysStep) (n := 81) rfl rfl rfl (fun pc h => bi_drg bi_dk230 pc (Nat.zero_le _) (by omega))
theorem bi_dk231 : (List.range' 0 69).all (fun pc => bi_dq bi_c231 cX12_policyCost pc) = true := by decide +kernel
theorem bi_dp231 : bi_dP 231 := bi_dgen (f := bi_c231) (cc := cX12_policyCost) (n := 69) rfl rfl rfl (fun pc h => bi_drg bi_dk231 pc (Nat.zero_le _) (by omega))
theorem bi_dk232 : (List.range' 0 241).all (fun pc => bi_dq bi_c232 cX12_laysSteps pc) = true := by decide +kernel
theorem bi_dp232 : bi_dP 232 := bi_dgen (f := bi_c232) (cc := cX12_laysSteps) (n := 241) rfl rfl rfl (fun pc h => bi_drg bi_dk232 pc (Nat.zero_le _) (by omega))
theorem bi_dk233 : (List.range' 0 116).all (fun pc => bi_dq bi_c233 cX12_mayGoAhead pc) = true := by decide +kernel
theorem bi_dp233 : bi_dP 233 := bi_dgen (f := bi_c233) (cc := cX12_mayGoAhead) (n := 116) rfl rfl rfl (fun pc h => bi_drg bi_dk233 pc (Nat.zero_le _) (by omega))
theorem bi_dk234 : (List.range' 0 96).all (fun pc => bi_dq bi_c234 cX12_plans pc) = true := by decide +kernel
theorem bi_dp234 : bi_dP 234 := bi_dgen (f := bi_c234) (cc := cX12_plans) (n := 96) rfl rfl rfl (fun pc h => bi_drg bi_dk234 pc (Nat.zero_le _) (by omega))
theorem bi_dk235 : (List.range' 0 98).all (fun pc => bi_dq bi_c235 cX12_doesPass pc) = true := by decide +kernel
theorem bi_dp235 : bi_dP 235 := bi_dgen (f := bi_c235) (cc := cX12_doesPass) (n := 98) rfl rfl rfl (fun pc h => bi_drg bi_dk235 pc (Nat.zero_le _) (by omega))
theorem bi_dk236 : (List.range' 0 283).all (fun pc => bi_dq bi_c236 cX12_runs pc) = true := by decide +kernel
theorem bi_dp236 : bi_dP 236 := bi_dgen (f := bi_c236) (cc := cX12_runs) (n := 283) rfl rfl rfl (fun pc h => bi_drg bi_dk236 pc (Nat.zero_le _) (by omega))
theorem bi_dk237 : (List.range' 0 350).all (fun pc => bi_dq bi_c237 cX12_query pc) = true := by decide +kernel
theorem bi_dp237 : bi_dP 237 := bi_dgen (f := bi_c237) (cc := cX12_query) (n := 350) rfl rfl rfl (fun pc h => bi_drg bi_dk237 pc (Nat.zero_le _) (by omega))
theorem bi_dk238 : (List.range' 0 35).all (fun pc => bi_dq bi_c238 cX12_asked pc) = true := by decide +kernel
theorem bi_dp238 : bi_dP 238 := bi_dgen (f := bi_c238) (cc := cX12_asked) (n := 35) rfl rfl rfl (fun pc h => bi_drg bi_dk238 pc (Nat.zero_le _) (by omega))
theorem bi_dk239 : (List.range' 0 88).all (fun pc => bi_dq bi_c239 cX12_step pc) = true := by decide +kernel
theorem bi_dp239 : bi_dP 239 := bi_dgen (f := bi_c239) (cc := cX12_step) (n := 88) rfl rfl rfl (fun pc h => bi_drg bi_dk239 pc (Nat.zero_le _) (by omega))
theorem bi_dk240 : (List.range' 0 9).all (fun pc => bi_dq bi_c240 cX12_isNumber pc) = true := by decide +kernel
theorem bi_dp240 : bi_dP 240 := bi_dgen (f := bi_c240) (cc := cX12_isNumber) (n := 9) rfl rfl rfl (fun pc h => bi_drg bi_dk240 pc (Nat.zero_le _) (by omega))
theorem bi_dk241 : (List.range' 0 162).all (fun pc => bi_dq bi_c241 cX12_inserts pc) = true := by decide +kernel
theorem bi_dp241 : bi_dP 241 := bi_dgen (f := bi_c241) (cc := cX12_inserts) (n := 162) rfl rfl rfl (fun pc h => bi_drg bi_dk241 pc (Nat.zero_le _) (by omega))
theorem bi_dk242 : (List.range' 0 50).all (fun pc => bi_dq bi_c242 cX12_isUsed pc) = true := by decide +kernel
theorem bi_dp242 : bi_dP 242 := bi_dgen (f := bi_c242) (cc := cX12_isUsed) (n := 50) rfl rfl rfl (fun pc h => bi_drg bi_dk242 pc (Nat.zero_le _) (by omega))
theorem bi_dk243 : (List.range' 0 29).all (fun pc => bi_dq bi_c243 cX12_isChecked pc) = true := by decide +kernel
theorem bi_dp243 : bi_dP 243 := bi_dgen (f := bi_c243) (cc := cX12_isChecked) (n := 29) rfl rfl rfl (fun pc h => bi_drg bi_dk243 pc (Nat.zero_le _) (by omega))
theorem bi_dk244 : (List.range' 0 102).all (fun pc => bi_dq bi_c244 cX12_deletes pc) = true := by decide +kernel
theorem bi_dp244 : bi_dP 244 := bi_dgen (f := bi_c244) (cc := cX12_deletes) (n := 102) rfl rfl rfl (fun pc h => bi_drg bi_dk244 pc (Nat.zero_le _) (by omega))
theorem bi_dk245 : (List.range' 0 156).all (fun pc => bi_dq bi_c245 cX12_insert pc) = true := by decide +kernel
theorem bi_dp245 : bi_dP 245 := bi_dgen (f := bi_c245) (cc := cX12_insert) (n := 156) rfl rfl rfl (fun pc h => bi_drg bi_dk245 pc (Nat.zero_le _) (by omega))
theorem bi_dk246 : (List.range' 0 102).all (fun pc => bi_dq bi_c246 cX12_update pc) = true := by decide +kernel
theorem bi_dp246 : bi_dP 246 := bi_dgen (f := bi_c246) (cc := cX12_update) (n := 102) rfl rfl rfl (fun pc h => bi_drg bi_dk246 pc (Nat.zero_le _) (by omega))
theorem bi_dk247 : (List.range' 0 38).all (fun pc => bi_dq bi_c247 cX12_delete pc) = true := by decide +kernel
theorem bi_dp247 : bi_dP 247 := bi_dgen (f := bi_c247) (cc := cX12_delete) (n := 38) rfl rfl rfl (fun pc h => bi_drg bi_dk247 pc (Nat.zero_le _) (by omega))
theorem bi_dk248 : (List.range' 0 117).all (fun pc => bi_dq bi_c248 cX12_grant pc) = true := by decide +kernel
theorem bi_dp248 : bi_dP 248 := bi_dgen (f := bi_c248) (cc := cX12_grant) (n := 117) rfl rfl rfl (fun pc h => bi_drg bi_dk248 pc (Nat.zero_le _) (by omega))
theorem bi_dk249 : (List.range' 0 101).all (fun pc => bi_dq bi_c249 cX12_turn pc) = true := by decide +kernel
theorem bi_dp249 : bi_dP 249 := bi_dgen (f := bi_c249) (cc := cX12_turn) (n := 101) rfl rfl rfl (fun pc h => bi_drg bi_dk249 pc (Nat.zero_le _) (by omega))
theorem bi_dk250 : (List.range' 0 55).all (fun pc => bi_dq bi_c250 cX12_readers pc) = true := by decide +kernel
theorem bi_dp250 : bi_dP 250 := bi_dgen (f := bi_c250) (cc := cX12_readers) (n := 55) rfl rfl rfl (fun pc h => bi_drg bi_dk250 pc (Nat.zero_le _) (by omega))
theorem bi_dk251 : (List.range' 0 84).all (fun pc => bi_dq bi_c251 cX12_may pc) = true := by decide +kernel
theorem bi_dp251 : bi_dP 251 := bi_dgen (f := bi_c251) (cc := cX12_may) (n := 84) rfl rfl rfl (fun pc h => bi_drg bi_dk251 pc (Nat.zero_le _) (by omega))
theorem bi_dk252 : (List.range' 0 109).all (fun pc => bi_dq bi_c252 cX12_toSee pc) = true := by decide +kernel
theorem bi_dp252 : bi_dP 252 := bi_dgen (f := bi_c252) (cc := cX12_toSee) (n := 109) rfl rfl rfl (fun pc h => bi_drg bi_dk252 pc (Nat.zero_le _) (by omega))
theorem bi_dk253 : (List.range' 0 80).all (fun pc => bi_dq bi_c253 cX12_isEscape pc) = true := by decide +kernel
theorem bi_dp253 : bi_dP 253 := bi_dgen (f := bi_c253) (cc := cX12_isEscape) (n := 80) rfl rfl rfl (fun pc h => bi_drg bi_dk253 pc (Nat.zero_le _) (by omega))
theorem bi_dk254 : (List.range' 0 16).all (fun pc => bi_dq bi_c254 cX12_cellOf pc) = true := by decide +kernel
theorem bi_dp254 : bi_dP 254 := bi_dgen (f := bi_c254) (cc := cX12_cellOf) (n := 16) rfl rfl rfl (fun pc h => bi_drg bi_dk254 pc (Nat.zero_le _) (by omega))
theorem bi_dk255 : (List.range' 0 133).all (fun pc => bi_dq bi_c255 cX12_escapes pc) = true := by decide +kernel
theorem bi_dp255 : bi_dP 255 := bi_dgen (f := bi_c255) (cc := cX12_escapes) (n := 133) rfl rfl rfl (fun pc h => bi_drg bi_dk255 pc (Nat.zero_le _) (by omega))
theorem bi_dk256 : (List.range' 0 101).all (fun pc => bi_dq bi_c256 cX12_see pc) = true := by decide +kernel
theorem bi_dp256 : bi_dP 256 := bi_dgen (f := bi_c256) (cc := cX12_see) (n := 101) rfl rfl rfl (fun pc h => bi_drg bi_dk256 pc (Nat.zero_le _) (by omega))
