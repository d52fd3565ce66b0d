theorem bi_dk122 : (List.range' 0 194).all (fun pc => bi_dq bi_c122 cX11_init pc) = true := by decide +kernel
theorem bi_dp122 : bi_dP 122 := bi_dgen (f := bi_c122) (cc := cX11_init) (n := 194) rfl rfl rfl (fun pc h => bi_drg bi_dk122 pc (Nat.zero_le _) (by omega))
theorem bi_dk123 : (List.range' 0 68).all (fun pc => bi_dq bi_c123 cX11_feed pc) = true := by decide +kernel
theorem bi_dp123 : bi_dP 123 := bi_dgen (f := bi_c123) (cc := cX11_feed) (n := 68) rfl rfl rfl (fun pc h => bi_drg bi_dk123 pc (Nat.zero_le _) (by omega))
theorem bi_dk124 : (List.range' 0 92).all (fun pc => bi_dq bi_c124 cX11_tell pc) = true := by decide +kernel
theorem bi_dp124 : bi_dP 124 := bi_dgen (f := bi_c124) (cc := cX11_tell) (n := 92) rfl rfl rfl (fun pc h => bi_drg bi_dk124 pc (Nat.zero_le _) (by omega))
theorem bi_dk125 : (List.range' 0 113).all (fun pc => bi_dq bi_c125 cX11_query pc) = true := by decide +kernel
theorem bi_dp125 : bi_dP 125 := bi_dgen (f := bi_c125) (cc := cX11_query) (n := 113) rfl rfl rfl (fun pc h => bi_drg bi_dk125 pc (Nat.zero_le _) (by omega))
theorem bi_dk126 : (List.range' 0 5).all (fun pc => bi_dq bi_c126 cX11_fault pc) = true := by decide +kernel
theorem bi_dp126 : bi_dP 126 := bi_dgen (f := bi_c126) (cc := cX11_fault) (n := 5) rfl rfl rfl (fun pc h => bi_drg bi_dk126 pc (Nat.zero_le _) (by omega))
theorem bi_dk127 : (List.range' 0 182).all (fun pc => bi_dq bi_c127 cX11_count pc) = true := by decide +kernel
theorem bi_dp127 : bi_dP 127 := bi_dgen (f := bi_c127) (cc := cX11_count) (n := 182) rfl rfl rfl (fun pc h => bi_drg bi_dk127 pc (Nat.zero_le _) (by omega))
theorem bi_dk128 : (List.range' 0 113).all (fun pc => bi_dq bi_c128 cX11_role pc) = true := by decide +kernel
theorem bi_dp128 : bi_dP 128 := bi_dgen (f := bi_c128) (cc := cX11_role) (n := 113) rfl rfl rfl (fun pc h => bi_drg bi_dk128 pc (Nat.zero_le _) (by omega))
theorem bi_dk129 : (List.range' 0 20).all (fun pc => bi_dq bi_c129 cX11_cell pc) = true := by decide +kernel
theorem bi_dp129 : bi_dP 129 := bi_dgen (f := bi_c129) (cc := cX11_cell) (n := 20) rfl rfl rfl (fun pc h => bi_drg bi_dk129 pc (Nat.zero_le _) (by omega))
theorem bi_dk130 : (List.range' 0 164).all (fun pc => bi_dq bi_c130 cX11_policy pc) = true := by decide +kernel
theorem bi_dp130 : bi_dP 130 := bi_dgen (f := bi_c130) (cc := cX11_policy) (n := 164) rfl rfl rfl (fun pc h => bi_drg bi_dk130 pc (Nat.zero_le _) (by omega))
theorem bi_dk131 : (List.range' 0 128).all (fun pc => bi_dq bi_c131 cX11_view pc) = true := by decide +kernel
theorem bi_dp131 : bi_dP 131 := bi_dgen (f := bi_c131) (cc := cX11_view) (n := 128) rfl rfl rfl (fun pc h => bi_drg bi_dk131 pc (Nat.zero_le _) (by omega))
theorem bi_dk132 : (List.range' 0 41).all (fun pc => bi_dq bi_c132 cX11_asked pc) = true := by decide +kernel
theorem bi_dp132 : bi_dP 132 := bi_dgen (f := bi_c132) (cc := cX11_asked) (n := 41) rfl rfl rfl (fun pc h => bi_drg bi_dk132 pc (Nat.zero_le _) (by omega))
theorem bi_dk133 : (List.range' 0 56).all (fun pc => bi_dq bi_c133 cX11_step pc) = true := by decide +kernel
theorem bi_dp133 : bi_dP 133 := bi_dgen (f := bi_c133) (cc := cX11_step) (n := 56) rfl rfl rfl (fun pc h => bi_drg bi_dk133 pc (Nat.zero_le _) (by omega))
theorem bi_dk134 : (List.range' 0 93).all (fun pc => bi_dq bi_c134 cX11_insert pc) = true := by decide +kernel
theorem bi_dp134 : bi_dP 134 := bi_dgen (f := bi_c134) (cc := cX11_insert) (n := 93) rfl rfl rfl (fun pc h => bi_drg bi_dk134 pc (Nat.zero_le _) (by omega))
theorem bi_dk135 : (List.range' 0 58).all (fun pc => bi_dq bi_c135 cX11_update pc) = true := by decide +kernel
theorem bi_dp135 : bi_dP 135 := bi_dgen (f := bi_c135) (cc := cX11_update) (n := 58) rfl rfl rfl (fun pc h => bi_drg bi_dk135 pc (Nat.zero_le _) (by omega))
theorem bi_dk136 : (List.range' 0 38).all (fun pc => bi_dq bi_c136 cX11_delete pc) = true := by decide +kernel
theorem bi_dp136 : bi_dP 136 := bi_dgen (f := bi_c136) (cc := cX11_delete) (n := 38) rfl rfl rfl (fun pc h => bi_drg bi_dk136 pc (Nat.zero_le _) (by omega))
theorem bi_dk137 : (List.range' 0 116).all (fun pc => bi_dq bi_c137 cX11_grant pc) = true := by decide +kernel
theorem bi_dp137 : bi_dP 137 := bi_dgen (f := bi_c137) (cc := cX11_grant) (n := 116) rfl rfl rfl (fun pc h => bi_drg bi_dk137 pc (Nat.zero_le _) (by omega))
theorem bi_dk138 : (List.range' 0 53).all (fun pc => bi_dq bi_c138 cX11_turn pc) = true := by decide +kernel
theorem bi_dp138 : bi_dP 138 := bi_dgen (f := bi_c138) (cc := cX11_turn) (n := 53) rfl rfl rfl (fun pc h => bi_drg bi_dk138 pc (Nat.zero_le _) (by omega))
theorem bi_dk139 : (List.range' 0 22).all (fun pc => bi_dq bi_c139 cX11_undo pc) = true := by decide +kernel
theorem bi_dp139 : bi_dP 139 := bi_dgen (f := bi_c139) (cc := cX11_undo) (n := 22) rfl rfl rfl (fun pc h => bi_drg bi_dk139 pc (Nat.zero_le _) (by omega))
theorem bi_dk140 : (List.range' 0 29).all (fun pc => bi_dq bi_c140 cX11_readers pc) = true := by decide +kernel
theorem bi_dp140 : bi_dP 140 := bi_dgen (f := bi_c140) (cc := cX11_readers) (n := 29) rfl rfl rfl (fun pc h => bi_drg bi_dk140 pc (Nat.zero_le _) (by omega))
theorem bi_dk141 : (List.range' 0 35).all (fun pc => bi_dq bi_c141 cX11_toSee pc) = true := by decide +kernel
theorem bi_dp141 : bi_dP 141 := bi_dgen (f := bi_c141) (cc := cX11_toSee) (n := 35) rfl rfl rfl (fun pc h => bi_drg bi_dk141 pc (Nat.zero_le _) (by omega))
theorem bi_dk142 : (List.range' 0 56).all (fun pc => bi_dq bi_c142 cX11_escapes pc) = true := by decide +kernel
theorem bi_dp142 : bi_dP 142 := bi_dgen (f := bi_c142) (cc := cX11_escapes) (n := 56) rfl rfl rfl (fun pc h => bi_drg bi_dk142 pc (Nat.zero_le _) (by omega))
theorem bi_dk143 : (List.range' 0 93).all (fun pc => bi_dq bi_c143 cX11_may pc) = true := by decide +kernel
theorem bi_dp143 : bi_dP 143 := bi_dgen (f := bi_c143) (cc := cX11_may) (n := 93) rfl rfl rfl (fun pc h => bi_drg bi_dk143 pc (Nat.zero_le _) (by omega))
theorem bi_dk144 : (List.range' 0 43).all (fun pc => bi_dq bi_c144 cX11_see pc) = true := by decide +kernel
theorem bi_dp144 : bi_dP 144 := bi_dgen (f := bi_c144) (cc := cX11_see) (n := 43) rfl rfl rfl (fun pc h => bi_drg bi_dk144 pc (Nat.zero_le _) (by omega))
theorem bi_dk145 : (List.range' 0 8).all (fun pc => bi_dq bi_c145 cX11_forget pc) = true := by decide +kernel
theorem bi_dp145 : bi_dP 145 := bi_dgen (f := bi_c145) (cc := cX11_forget) (n := 8) rfl rfl rfl (fun pc h => bi_drg bi_dk145 pc (Nat.zero_le _) (by omega))
theorem bi_dk146 : (List.range' 0 72).all (fun pc => bi_dq bi_c146 cX11_meant pc) = true := by decide +kernel
theorem bi_dp146 : bi_dP 146 := bi_dgen (f := bi_c146) (cc := cX11_meant) (n := 72) rfl rfl rfl (fun pc h => bi_drg bi_dk146 pc (Nat.zero_le _) (by omega))
theorem bi_dk147 : (List.range' 0 68).all (fun pc => bi_dq bi_c147 cX11_look pc) = true := by decide +kernel
theorem bi_dp147 : bi_dP 147 := bi_dgen (f := bi_c147) (cc := cX11_look) (n := 68) rfl rfl rfl (fun pc h => bi_drg bi_dk147 pc (Nat.zero_le _) (by omega))
theorem bi_dk148 : (List.range' 0 54).all (fun pc => bi_dq bi_c148 cX11_lapses pc) = true := by decide +kernel
theorem bi_dp148 : bi_dP 148 := bi_dgen (f := bi_c148) (cc := cX11_lapses) (n := 54) rfl rfl rfl (fun pc h => bi_drg bi_dk148 pc (Nat.zero_le _) (by omega))
theorem bi_dk149 : (List.range' 0 135).all (fun pc => bi_dq bi_c149 cX11_years pc) = true := by decide +kernel
theorem bi_dp149 : bi_dP 149 := bi_dgen (f := bi_c149) (cc := cX11_years) (n := 135) rfl rfl rfl (fun pc h => bi_drg bi_dk149 pc (Nat.zero_le _) (by omega))
theorem bi_dk150 : (List.range' 0 17).all (fun pc => bi_dq bi_c150 cX11_image pc) = true := by decide +kernel
theorem bi_dp150 : bi_dP 150 := bi_dgen (f := bi_c150) (cc := cX11_image) (n := 17) rfl rfl rfl (fun pc h => bi_drg bi_dk150 pc (Nat.zero_le _) (by omega))
theorem bi_dk151 : (List.range' 0 22).all (fun pc => bi_dq bi_c151 cX11_restore pc) = true := by decide +kernel
theorem bi_dp151 : bi_dP 151 := bi_dgen (f := bi_c151) (cc := cX11_restore) (n := 22) rfl rfl rfl (fun pc h => bi_drg bi_dk151 pc (Nat.zero_le _) (by omega))
theorem bi_dk152 : (List.range' 0 42).all (fun pc => bi_dq bi_c152 cX11_endReading pc) = true := by decide +kernel
theorem bi_dp152 : bi_dP 152 := bi_dgen (f := bi_c152) (cc := cX11_endReading) (n := 42) rfl rfl rfl (fun pc h => bi_drg bi_dk152 pc (Nat.zero_le _) (by omega))
theorem bi_dk153 : (List.range' 0 24).all (fun pc => bi_dq bi_c153 cX11_needBytes pc) = true := by decide +kernel
theorem bi_dp153 : bi_dP 153 := bi_dgen (f := bi_c153) (cc := cX11_needBytes) (n := 24) rfl rfl rfl (fun pc h => bi_drg bi_dk153 pc (Nat.zero_le _) (by omega))
theorem bi_dk154 : (List.range' 0 12).all (fun pc => bi_dq bi_c154 cX11_needRole pc) = true := by decide +kernel
theorem bi_dp154 : bi_dP 154 := bi_dgen (f := bi_c154) (cc := cX11_needRole) (n := 12) rfl rfl rfl (fun pc h => bi_drg bi_dk154 pc (Nat.zero_le _) (by omega))
theorem bi_dk155 : (List.range' 0 12).all (fun pc => bi_dq bi_c155 cX11_needView pc) = true := by decide +kernel
theorem bi_dp155 : bi_dP 155 := bi_dgen (f := bi_c155) (cc := cX11_needView) (n := 12) rfl rfl rfl (fun pc h => bi_drg bi_dk155 pc (Nat.zero_le _) (by omega))
theorem bi_dk156 : (List.range' 0 12).all (fun pc => bi_dq bi_c156 cX11_needPolicy pc) = true := by decide +kernel
theorem bi_dp156 : bi_dP 156 := bi_dgen (f := bi_c156) (cc := cX11_needPolicy) (n := 12) rfl rfl rfl (fun pc h => bi_drg bi_dk156 pc (Nat.zero_le _) (by omega))
theorem bi_dk157 : (List.range' 0 12).all (fun pc => bi_dq bi_c157 cX11_needRow pc) = true := by decide +kernel
theorem bi_dp157 : bi_dP 157 := bi_dgen (f := bi_c157) (cc := cX11_needRow) (n := 12) rfl rfl rfl (fun pc h => bi_drg bi_dk157 pc (Nat.zero_le _) (by omega))
theorem bi_dk158 : (List.range' 0 12).all (fun pc => bi_dq bi_c158 cX11_needColumn pc) = true := by decide +kernel
theorem bi_dp158 : bi_dP 158 := bi_dgen (f := bi_c158) (cc := cX11_needColumn) (n := 12) rfl rfl rfl (fun pc h => bi_drg bi_dk158 pc (Nat.zero_le _) (by omega))
theorem bi_dk159 : (List.range' 0 18).all (fun pc => bi_dq bi_c159 cX11_needOneOf pc) = true := by decide +kernel
theorem bi_dp159 : bi_dP 159 := bi_dgen (f := bi_c159) (cc := cX11_needOneOf) (n := 18) rfl rfl rfl (fun pc h => bi_drg bi_dk159 pc (Nat.zero_le _) (by omega))
theorem bi_dk160 : (List.range' 0 6).all (fun pc => bi_dq bi_c160 cX11_bit pc) = true := by decide +kernel
theorem bi_dp160 : bi_dP 160 := bi_dgen (f := bi_c160) (cc := cX11_bit) (n := 6) rfl rfl rfl (fun pc h => bi_drg bi_dk160 pc (Nat.zero_le _) (by omega))
theorem bi_dk161 : (List.range' 0 286).all (fun pc => bi_dq bi_c161 cX12_init pc) = true := by decide +kernel
theorem bi_dp161 : bi_dP 161 := bi_dgen (f := bi_c161) (cc := cX12_init) (n := 286) rfl rfl rfl (fun pc h => bi_drg bi_dk161 pc (Nat.zero_le _) (by omega))
theorem bi_dk162 : (List.range' 0 5).all (fun pc => bi_dq bi_c162 cX12_thrown pc) = true := by decide +kernel
theorem bi_dp162 : bi_dP 162 := bi_dgen (f := bi_c162) (cc := cX12_thrown) (n := 5) rfl rfl rfl (fun pc h => bi_drg bi_dk162 pc (Nat.zero_le _) (by omega))
theorem bi_dk163 : (List.range' 0 29).all (fun pc => bi_dq bi_c163 cX12_right pc) = true := by decide +kernel
theorem bi_dp163 : bi_dP 163 := bi_dgen (f := bi_c163) (cc := cX12_right) (n := 29) rfl rfl rfl (fun pc h => bi_drg bi_dk163 pc (Nat.zero_le _) (by omega))
theorem bi_dk164 : (List.range' 0 16).all (fun pc => bi_dq bi_c164 cX12_within pc) = true := by decide +kernel
theorem bi_dp164 : bi_dP 164 := bi_dgen (f := bi_c164) (cc := cX12_within) (n := 16) rfl rfl rfl (fun pc h => bi_drg bi_dk164 pc (Nat.zero_le _) (by omega))
theorem bi_dk165 : (List.range' 0 21).all (fun pc => bi_dq bi_c165 cX12_copies pc) = true := by decide +kernel
theorem bi_dp165 : bi_dP 165 := bi_dgen (f := bi_c165) (cc := cX12_copies) (n := 21) rfl rfl rfl (fun pc h => bi_drg bi_dk165 pc (Nat.zero_le _) (by omega))
theorem bi_dk166 : (List.range' 0 26).all (fun pc => bi_dq bi_c166 cX12_bits pc) = true := by decide +kernel
theorem bi_dp166 : bi_dP 166 := bi_dgen (f := bi_c166) (cc := cX12_bits) (n := 26) rfl rfl rfl (fun pc h => bi_drg bi_dk166 pc (Nat.zero_le _) (by omega))
theorem bi_dk167 : (List.range' 0 52).all (fun pc => bi_dq bi_c167 cX12_feed pc) = true := by decide +kernel
theorem bi_dp167 : bi_dP 167 := bi_dgen (f := bi_c167) (cc := cX12_feed) (n := 52) rfl rfl rfl (fun pc h => bi_drg bi_dk167 pc (Nat.zero_le _) (by omega))
theorem bi_dk168 : (List.range' 0 40).all (fun pc => bi_dq bi_c168 cX12_lays pc) = true := by decide +kernel
theorem bi_dp168 : bi_dP 168 := bi_dgen (f := bi_c168) (cc := cX12_lays) (n := 40) rfl rfl rfl (fun pc h => bi_drg bi_dk168 pc (Nat.zero_le _) (by omega))
theorem bi_dk169 : (List.range' 0 19).all (fun pc => bi_dq bi_c169 cX12_byteAt pc) = true := by decide +kernel
theorem bi_dp169 : bi_dP 169 := bi_dgen (f := bi_c169) (cc := cX12_byteAt) (n := 19) rfl rfl rfl (fun pc h => bi_drg bi_dk169 pc (Nat.zero_le _) (by omega))
theorem bi_dk170 : (List.range' 0 18).all (fun pc => bi_dq bi_c170 cX12_isLetter pc) = true := by decide +kernel
theorem bi_dp170 : bi_dP 170 := bi_dgen (f := bi_c170) (cc := cX12_isLetter) (n := 18) rfl rfl rfl (fun pc h => bi_drg bi_dk170 pc (Nat.zero_le _) (by omega))
theorem bi_dk171 : (List.range' 0 18).all (fun pc => bi_dq bi_c171 cX12_isDigit pc) = true := by decide +kernel
theorem bi_dp171 : bi_dP 171 := bi_dgen (f := bi_c171) (cc := cX12_isDigit) (n := 18) rfl rfl rfl (fun pc h => bi_drg bi_dk171 pc (Nat.zero_le _) (by omega))
theorem bi_dk172 : (List.range' 0 351).all (fun pc => bi_dq bi_c172 cX12_goes pc) = true := by decide +kernel
theorem bi_dp172 : bi_dP 172 := bi_dgen (f := bi_c172) (cc := cX12_goes) (n := 351) rfl rfl rfl (fun pc h => bi_drg bi_dk172 pc (Nat.zero_le _) (by omega))
theorem bi_dk173 : (List.range' 0 123).all (fun pc => bi_dq bi_c173 cX12_spelled pc) = true := by decide +kernel
theorem bi_dp173 : bi_dP 173 := bi_dgen (f := bi_c173) (cc := cX12_spelled) (n := 123) rfl rfl rfl (fun pc h => bi_drg bi_dk173 pc (Nat.zero_le _) (by omega))
theorem bi_dk174 : (List.range' 0 524).all (fun pc => bi_dq bi_c174 cX12_letters pc) = true := by decide +kernel
theorem bi_dp174 : bi_dP 174 := bi_dgen (f := bi_c174) (cc := cX12_letters) (n := 524) rfl rfl rfl (fun pc h => bi_drg bi_dk174 pc (Nat.zero_le _) (by omega))
theorem bi_dk175 : (List.range' 0 57).all (fun pc => bi_dq bi_c175 cX12_knownWord pc) = true := by decide +kernel
theorem bi_dp175 : bi_dP 175 := bi_dgen (f := bi_c175) (cc := cX12_knownWord) (n := 57) rfl rfl rfl (fun pc h => bi_drg bi_dk175 pc (Nat.zero_le _) (by omega))
theorem bi_dk176 : (List.range' 0 22).all (fun pc => bi_dq bi_c176 cX12_wrong pc) = true := by decide +kernel
theorem bi_dp176 : bi_dP 176 := bi_dgen (f := bi_c176) (cc := cX12_wrong) (n := 22) rfl rfl rfl (fun pc h => bi_drg bi_dk176 pc (Nat.zero_le _) (by omega))
theorem bi_dk177 : (List.range' 0 13).all (fun pc => bi_dq bi_c177 cX12_isGood pc) = true := by decide +kernel
theorem bi_dp177 : bi_dP 177 := bi_dgen (f := bi_c177) (cc := cX12_isGood) (n := 13) rfl rfl rfl (fun pc h => bi_drg bi_dk177 pc (Nat.zero_le _) (by omega))
theorem bi_dk178 : (List.range' 0 22).all (fun pc => bi_dq bi_c178 cX12_isSign pc) = true := by decide +kernel
theorem bi_dp178 : bi_dP 178 := bi_dgen (f := bi_c178) (cc := cX12_isSign) (n := 22) rfl rfl rfl (fun pc h => bi_drg bi_dk178 pc (Nat.zero_le _) (by omega))
theorem bi_dk179 : (List.range' 0 25).all (fun pc => bi_dq bi_c179 cX12_need pc) = true := by decide +kernel
theorem bi_dp179 : bi_dP 179 := bi_dgen (f := bi_c179) (cc := cX12_need) (n := 25) rfl rfl rfl (fun pc h => bi_drg bi_dk179 pc (Nat.zero_le _) (by omega))
theorem bi_dk180 : (List.range' 0 72).all (fun pc => bi_dq bi_c180 cX12_number pc) = true := by decide +kernel
theorem bi_dp180 : bi_dP 180 := bi_dgen (f := bi_c180) (cc := cX12_number) (n := 72) rfl rfl rfl (fun pc h => bi_drg bi_dk180 pc (Nat.zero_le _) (by omega))
theorem bi_dk181 : (List.range' 0 59).all (fun pc => bi_dq bi_c181 cX12_oneHere pc) = true := by decide +kernel
theorem bi_dp181 : bi_dP 181 := bi_dgen (f := bi_c181) (cc := cX12_oneHere) (n := 59) rfl rfl rfl (fun pc h => bi_drg bi_dk181 pc (Nat.zero_le _) (by omega))
theorem bi_dk182 : (List.range' 0 9).all (fun pc => bi_dq bi_c182 cX12_roleHere pc) = true := by decide +kernel
theorem bi_dp182 : bi_dP 182 := bi_dgen (f := bi_c182) (cc := cX12_roleHere) (n := 9) rfl rfl rfl (fun pc h => bi_drg bi_dk182 pc (Nat.zero_le _) (by omega))
theorem bi_dk183 : (List.range' 0 41).all (fun pc => bi_dq bi_c183 cX12_columnWord pc) = true := by decide +kernel
theorem bi_dp183 : bi_dP 183 := bi_dgen (f := bi_c183) (cc := cX12_columnWord) (n := 41) rfl rfl rfl (fun pc h => bi_drg bi_dk183 pc (Nat.zero_le _) (by omega))
theorem bi_dk184 : (List.range' 0 21).all (fun pc => bi_dq bi_c184 cX12_puts pc) = true := by decide +kernel
theorem bi_dp184 : bi_dP 184 := bi_dgen (f := bi_c184) (cc := cX12_puts) (n := 21) rfl rfl rfl (fun pc h => bi_drg bi_dk184 pc (Nat.zero_le _) (by omega))
theorem bi_dk185 : (List.range' 0 12).all (fun pc => bi_dq bi_c185 cX12_isOpen pc) = true := by decide +kernel
theorem bi_dp185 : bi_dP 185 := bi_dgen (f := bi_c185) (cc := cX12_isOpen) (n := 12) rfl rfl rfl (fun pc h => bi_drg bi_dk185 pc (Nat.zero_le _) (by omega))
theorem bi_dk186 : (List.range' 0 62).all (fun pc => bi_dq bi_c186 cX12_strength pc) = true := by decide +kernel
theorem bi_dp186 : bi_dP 186 := bi_dgen (f := bi_c186) (cc := cX12_strength) (n := 62) rfl rfl rfl (fun pc h => bi_drg bi_dk186 pc (Nat.zero_le _) (by omega))
theorem bi_dk187 : (List.range' 0 69).all (fun pc => bi_dq bi_c187 cX12_drops pc) = true := by decide +kernel
theorem bi_dp187 : bi_dP 187 := bi_dgen (f := bi_c187) (cc := cX12_drops) (n := 69) rfl rfl rfl (fun pc h => bi_drg bi_dk187 pc (Nat.zero_le _) (by omega))
theorem bi_dk188 : (List.range' 0 21).all (fun pc => bi_dq bi_c188 cX12_waitsFor pc) = true := by decide +kernel
theorem bi_dp188 : bi_dP 188 := bi_dgen (f := bi_c188) (cc := cX12_waitsFor) (n := 21) rfl rfl rfl (fun pc h => bi_drg bi_dk188 pc (Nat.zero_le _) (by omega))
theorem bi_dk189 : (List.range' 0 153).all (fun pc => bi_dq bi_c189 cX12_part pc) = true := by decide +kernel
theorem bi_dp189 : bi_dP 189 := bi_dgen (f := bi_c189) (cc := cX12_part) (n := 153) rfl rfl rfl (fun pc h => bi_drg bi_dk189 pc (Nat.zero_le _) (by omega))
theorem bi_dk190 : (List.range' 0 65).all (fun pc => bi_dq bi_c190 cX12_deeper pc) = true := by decide +kernel
theorem bi_dp190 : bi_dP 190 := bi_dgen (f := bi_c190) (cc := cX12_deeper) (n := 65) rfl rfl rfl (fun pc h => bi_drg bi_dk190 pc (Nat.zero_le _) (by omega))
theorem bi_dk191 : (List.range' 0 206).all (fun pc => bi_dq bi_c191 cX12_operand pc) = true := by decide +kernel
theorem bi_dp191 : bi_dP 191 := bi_dgen (f := bi_c191) (cc := cX12_operand) (n := 206) rfl rfl rfl (fun pc h => bi_drg bi_dk191 pc (Nat.zero_le _) (by omega))
theorem bi_dk192 : (List.range' 0 39).all (fun pc => bi_dq bi_c192 cX12_isOpened pc) = true := by decide +kernel
theorem bi_dp192 : bi_dP 192 := bi_dgen (f := bi_c192) (cc := cX12_isOpened) (n := 39) rfl rfl rfl (fun pc h => bi_drg bi_dk192 pc (Nat.zero_le _) (by omega))
theorem bi_dk193 : (List.range' 0 50).all (fun pc => bi_dq bi_c193 cX12_closes pc) = true := by decide +kernel
theorem bi_dp193 : bi_dP 193 := bi_dgen (f := bi_c193) (cc := cX12_closes) (n := 50) rfl rfl rfl (fun pc h => bi_drg bi_dk193 pc (Nat.zero_le _) (by omega))
theorem bi_dk194 : (List.range' 0 432).all (fun pc => bi_dq bi_c194 cX12_expression pc) = true := by decide +kernel
theorem bi_dp194 : bi_dP 194 := bi_dgen (f := bi_c194) (cc := cX12_expression) (n := 432) rfl rfl rfl (fun pc h => bi_drg bi_dk194 pc (Nat.zero_le _) (by omega))
