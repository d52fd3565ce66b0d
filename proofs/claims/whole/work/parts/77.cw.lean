set_option maxRecDepth 100000 in
theorem bi_cwj0 : tables_1[120]? = some (bi_cw 0) := rfl
set_option maxRecDepth 100000 in
theorem bi_cwj1 : tables_1[673]? = some (bi_cw 1) := rfl
set_option maxRecDepth 100000 in
theorem bi_cwj2 : tables_1[383]? = some (bi_cw 2) := rfl
set_option maxRecDepth 100000 in
theorem bi_cwj3 : tables_1[1080]? = some (bi_cw 3) := rfl
set_option maxRecDepth 100000 in
theorem bi_cwj4 : tables_1[1143]? = some (bi_cw 4) := rfl
set_option maxRecDepth 100000 in
theorem bi_cwj5 : tables_1[1091]? = some (bi_cw 5) := rfl
set_option maxRecDepth 100000 in
theorem bi_cwj6 : tables_1[1097]? = some (bi_cw 6) := rfl
set_option maxRecDepth 100000 in
theorem bi_cwj7 : tables_1[1279]? = some (bi_cw 7) := rfl
set_option maxRecDepth 100000 in
theorem bi_cwj8 : tables_1[1283]? = some (bi_cw 8) := rfl
set_option maxRecDepth 100000 in
theorem bi_cwj9 : tables_1[1387]? = some (bi_cw 9) := rfl
set_option maxRecDepth 100000 in
theorem bi_cwj10 : tables_1[1390]? = some (bi_cw 10) := rfl
set_option maxRecDepth 100000 in
theorem bi_cwj11 : tables_1[1367]? = some (bi_cw 11) := rfl
set_option maxRecDepth 100000 in
theorem bi_cwj12 : tables_1[1375]? = some (bi_cw 12) := rfl
set_option maxRecDepth 100000 in
theorem bi_cwj13 : tables_1[1371]? = some (bi_cw 13) := rfl
set_option maxRecDepth 100000 in
theorem bi_cwj14 : tables_1[1296]? = some (bi_cw 14) := rfl
set_option maxRecDepth 100000 in
theorem bi_cwj15 : tables_1[1308]? = some (bi_cw 15) := rfl
set_option maxRecDepth 100000 in
theorem bi_cwj16 : tables_1[1300]? = some (bi_cw 16) := rfl
set_option maxRecDepth 100000 in
theorem bi_cwj17 : tables_1[1312]? = some (bi_cw 17) := rfl
set_option maxRecDepth 100000 in
theorem bi_cwj18 : tables_1[1304]? = some (bi_cw 18) := rfl
set_option maxRecDepth 100000 in
theorem bi_cwj19 : tables_1[1316]? = some (bi_cw 19) := rfl
set_option maxRecDepth 100000 in
theorem bi_cwj20 : tables_1[1320]? = some (bi_cw 20) := rfl
set_option maxRecDepth 100000 in
theorem bi_cwj21 : tables_1[1324]? = some (bi_cw 21) := rfl
set_option maxRecDepth 100000 in
theorem bi_cwj22 : tables_1[1328]? = some (bi_cw 22) := rfl
set_option maxRecDepth 100000 in
theorem bi_cwj23 : tables_1[317]? = some (bi_cw 23) := rfl
set_option maxRecDepth 100000 in
theorem bi_cwj24 : tables_1[948]? = some (bi_cw 24) := rfl
set_option maxRecDepth 100000 in
theorem bi_cwj25 : tables_1[952]? = some (bi_cw 25) := rfl
set_option maxRecDepth 100000 in
theorem bi_cwj26 : tables_1[995]? = some (bi_cw 26) := rfl
set_option maxRecDepth 100000 in
theorem bi_cwj27 : tables_1[1025]? = some (bi_cw 27) := rfl
set_option maxRecDepth 100000 in
theorem bi_cwj28 : tables_1[999]? = some (bi_cw 28) := rfl
set_option maxRecDepth 100000 in
theorem bi_cwj29 : tables_1[1038]? = some (bi_cw 29) := rfl
set_option maxRecDepth 100000 in
theorem bi_cwj30 : tables_1[1063]? = some (bi_cw 30) := rfl
set_option maxRecDepth 100000 in
theorem bi_cwj31 : tables_1[1033]? = some (bi_cw 31) := rfl
set_option maxRecDepth 100000 in
theorem bi_cwj32 : tables_1[1020]? = some (bi_cw 32) := rfl
set_option maxRecDepth 100000 in
theorem bi_cwj33 : tables_1[1268]? = some (bi_cw 33) := rfl
set_option maxRecDepth 100000 in
theorem bi_cwj34 : tables_1[1042]? = some (bi_cw 34) := rfl
set_option maxRecDepth 100000 in
theorem bi_cwj35 : tables_1[1051]? = some (bi_cw 35) := rfl
set_option maxRecDepth 100000 in
theorem bi_cwj36 : tables_1[1055]? = some (bi_cw 36) := rfl
set_option maxRecDepth 100000 in
theorem bi_cwj37 : tables_1[1059]? = some (bi_cw 37) := rfl
set_option maxRecDepth 100000 in
theorem bi_cwj38 : tables_1[410]? = some (bi_cw 38) := rfl
set_option maxRecDepth 100000 in
theorem bi_cwj39 : tables_1[1163]? = some (bi_cw 39) := rfl
set_option maxRecDepth 100000 in
theorem bi_cwj40 : tables_1[959]? = some (bi_cw 40) := rfl
set_option maxRecDepth 100000 in
theorem bi_cwj41 : tables_1[962]? = some (bi_cw 41) := rfl
set_option maxRecDepth 100000 in
theorem bi_cwj42 : tables_1[966]? = some (bi_cw 42) := rfl
set_option maxRecDepth 100000 in
theorem bi_cwj43 : tables_1[991]? = some (bi_cw 43) := rfl
set_option maxRecDepth 100000 in
theorem bi_cwj44 : tables_1[1004]? = some (bi_cw 44) := rfl
set_option maxRecDepth 100000 in
theorem bi_cwj45 : tables_1[1008]? = some (bi_cw 45) := rfl
set_option maxRecDepth 100000 in
theorem bi_cwj46 : tables_1[1016]? = some (bi_cw 46) := rfl
set_option maxRecDepth 100000 in
theorem bi_cwj47 : tables_1[1068]? = some (bi_cw 47) := rfl
set_option maxRecDepth 100000 in
theorem bi_cwj48 : tables_1[282]? = some (bi_cw 48) := rfl
set_option maxRecDepth 100000 in
theorem bi_cwj49 : tables_1[808]? = some (bi_cw 49) := rfl
set_option maxRecDepth 100000 in
theorem bi_cwj50 : tables_1[813]? = some (bi_cw 50) := rfl
set_option maxRecDepth 100000 in
theorem bi_cwj51 : tables_1[821]? = some (bi_cw 51) := rfl
set_option maxRecDepth 100000 in
theorem bi_cwj52 : tables_1[817]? = some (bi_cw 52) := rfl
set_option maxRecDepth 100000 in
theorem bi_cwj53 : tables_1[827]? = some (bi_cw 53) := rfl
set_option maxRecDepth 100000 in
theorem bi_cwj54 : tables_1[831]? = some (bi_cw 54) := rfl
set_option maxRecDepth 100000 in
theorem bi_cwj55 : tables_1[838]? = some (bi_cw 55) := rfl
set_option maxRecDepth 100000 in
theorem bi_cwj56 : tables_1[842]? = some (bi_cw 56) := rfl
set_option maxRecDepth 100000 in
theorem bi_cwj57 : tables_1[846]? = some (bi_cw 57) := rfl
set_option maxRecDepth 100000 in
theorem bi_cwj58 : tables_1[850]? = some (bi_cw 58) := rfl
set_option maxRecDepth 100000 in
theorem bi_cwj59 : tables_1[854]? = some (bi_cw 59) := rfl
set_option maxRecDepth 100000 in
theorem bi_cwj60 : tables_1[868]? = some (bi_cw 60) := rfl
set_option maxRecDepth 100000 in
theorem bi_cwj61 : tables_1[874]? = some (bi_cw 61) := rfl
set_option maxRecDepth 100000 in
theorem bi_cwj62 : tables_1[88]? = some (bi_cw 62) := rfl
set_option maxRecDepth 100000 in
theorem bi_cwj63 : tables_1[677]? = some (bi_cw 63) := rfl
set_option maxRecDepth 100000 in
theorem bi_cwj64 : tables_1[862]? = some (bi_cw 64) := rfl
set_option maxRecDepth 100000 in
theorem bi_cwj65 : tables_1[881]? = some (bi_cw 65) := rfl
set_option maxRecDepth 100000 in
theorem bi_cwj66 : tables_1[982]? = some (bi_cw 66) := rfl
set_option maxRecDepth 100000 in
theorem bi_cwj67 : tables_1[1047]? = some (bi_cw 67) := rfl
set_option maxRecDepth 100000 in
theorem bi_cwj68 : tables_1[978]? = some (bi_cw 68) := rfl
set_option maxRecDepth 100000 in
theorem bi_cwj69 : tables_1[986]? = some (bi_cw 69) := rfl
set_option maxRecDepth 100000 in
theorem bi_cwj70 : tables_1[219]? = some (bi_cw 70) := rfl
set_option maxRecDepth 100000 in
theorem bi_cwj71 : tables_1[681]? = some (bi_cw 71) := rfl
set_option maxRecDepth 100000 in
theorem bi_cwj72 : tables_1[587]? = some (bi_cw 72) := rfl
set_option maxRecDepth 100000 in
theorem bi_cwj73 : tables_1[564]? = some (bi_cw 73) := rfl
set_option maxRecDepth 100000 in
theorem bi_cwj74 : tables_1[1029]? = some (bi_cw 74) := rfl
set_option maxRecDepth 100000 in
theorem bi_cwj75 : tables_1[560]? = some (bi_cw 75) := rfl
set_option maxRecDepth 100000 in
theorem bi_cwj76 : tables_1[1199]? = some (bi_cw 76) := rfl
set_option maxRecDepth 100000 in
theorem bi_cwj77 : tables_1[1195]? = some (bi_cw 77) := rfl
set_option maxRecDepth 100000 in
theorem bi_cwj78 : tables_1[1219]? = some (bi_cw 78) := rfl
set_option maxRecDepth 100000 in
theorem bi_cwj79 : tables_1[1235]? = some (bi_cw 79) := rfl
set_option maxRecDepth 100000 in
theorem bi_cwj80 : tables_1[1246]? = some (bi_cw 80) := rfl
set_option maxRecDepth 100000 in
theorem bi_cwj81 : tables_1[1257]? = some (bi_cw 81) := rfl
set_option maxRecDepth 100000 in
theorem bi_cwj82 : tables_1[553]? = some (bi_cw 82) := rfl
set_option maxRecDepth 100000 in
theorem bi_cwj83 : tables_1[568]? = some (bi_cw 83) := rfl
set_option maxRecDepth 100000 in
theorem bi_cwj84 : tables_1[1348]? = some (bi_cw 84) := rfl
set_option maxRecDepth 100000 in
theorem bi_cwj85 : tables_1[579]? = some (bi_cw 85) := rfl
set_option maxRecDepth 100000 in
theorem bi_cwj86 : tables_1[417]? = some (bi_cw 86) := rfl
set_option maxRecDepth 100000 in
theorem bi_cwj87 : tables_1[970]? = some (bi_cw 87) := rfl
set_option maxRecDepth 100000 in
theorem bi_cwj88 : tables_1[974]? = some (bi_cw 88) := rfl
set_option maxRecDepth 100000 in
theorem bi_cwj89 : tables_1[1012]? = some (bi_cw 89) := rfl
set_option maxRecDepth 100000 in
theorem bi_cwj90 : tables_1[1175]? = some (bi_cw 90) := rfl
set_option maxRecDepth 100000 in
theorem bi_cwj91 : tables_1[38]? = some (bi_cw 91) := rfl
set_option maxRecDepth 100000 in
theorem bi_cwj92 : tables_1[541]? = some (bi_cw 92) := rfl
set_option maxRecDepth 100000 in
theorem bi_cwj93 : tables_1[686]? = some (bi_cw 93) := rfl
set_option maxRecDepth 100000 in
theorem bi_cwj94 : tables_1[693]? = some (bi_cw 94) := rfl
set_option maxRecDepth 100000 in
theorem bi_cwj95 : tables_1[701]? = some (bi_cw 95) := rfl
set_option maxRecDepth 100000 in
theorem bi_cwj96 : tables_1[706]? = some (bi_cw 96) := rfl
set_option maxRecDepth 100000 in
theorem bi_cwj97 : tables_1[697]? = some (bi_cw 97) := rfl
set_option maxRecDepth 100000 in
theorem bi_cwj98 : tables_1[858]? = some (bi_cw 98) := rfl
set_option maxRecDepth 100000 in
theorem bi_cwj99 : tables_1[767]? = some (bi_cw 99) := rfl
set_option maxRecDepth 100000 in
theorem bi_cwj100 : tables_1[772]? = some (bi_cw 100) := rfl
set_option maxRecDepth 100000 in
theorem bi_cwj101 : tables_1[763]? = some (bi_cw 101) := rfl
set_option maxRecDepth 100000 in
theorem bi_cwj102 : tables_1[276]? = some (bi_cw 102) := rfl
set_option maxRecDepth 100000 in
theorem bi_cwj103 : tables_1[942]? = some (bi_cw 103) := rfl
set_option maxRecDepth 100000 in
theorem bi_cwj104 : tables_1[669]? = some (bi_cw 104) := rfl
set_option maxRecDepth 100000 in
theorem bi_cwj105 : tables_1[758]? = some (bi_cw 105) := rfl
set_option maxRecDepth 100000 in
theorem bi_cwj106 : tables_1[777]? = some (bi_cw 106) := rfl
set_option maxRecDepth 100000 in
theorem bi_cwj107 : tables_1[782]? = some (bi_cw 107) := rfl
set_option maxRecDepth 100000 in
theorem bi_cwj108 : tables_1[790]? = some (bi_cw 108) := rfl
set_option maxRecDepth 100000 in
theorem bi_cwj109 : tables_1[794]? = some (bi_cw 109) := rfl
set_option maxRecDepth 100000 in
theorem bi_cwj110 : tables_1[799]? = some (bi_cw 110) := rfl
set_option maxRecDepth 100000 in
theorem bi_cwj111 : tables_1[887]? = some (bi_cw 111) := rfl
set_option maxRecDepth 100000 in
theorem bi_cwj112 : tables_1[891]? = some (bi_cw 112) := rfl
set_option maxRecDepth 100000 in
theorem bi_cwj113 : tables_1[898]? = some (bi_cw 113) := rfl
set_option maxRecDepth 100000 in
theorem bi_cwj114 : tables_1[369]? = some (bi_cw 114) := rfl
set_option maxRecDepth 100000 in
theorem bi_cwj115 : tables_1[1189]? = some (bi_cw 115) := rfl
set_option maxRecDepth 100000 in
theorem bi_cwj116 : tables_1[1186]? = some (bi_cw 116) := rfl
set_option maxRecDepth 100000 in
theorem bi_cwj117 : tables_1[1210]? = some (bi_cw 117) := rfl
set_option maxRecDepth 100000 in
theorem bi_cwj118 : tables_1[1231]? = some (bi_cw 118) := rfl
set_option maxRecDepth 100000 in
theorem bi_cwj119 : tables_1[1214]? = some (bi_cw 119) := rfl
set_option maxRecDepth 100000 in
theorem bi_cwj120 : tables_1[1401]? = some (bi_cw 120) := rfl
set_option maxRecDepth 100000 in
theorem bi_cwj121 : tables_1[1405]? = some (bi_cw 121) := rfl
set_option maxRecDepth 100000 in
theorem bi_cwj122 : tables_1[30]? = some (bi_cw 122) := rfl
set_option maxRecDepth 100000 in
theorem bi_cwj123 : tables_1[537]? = some (bi_cw 123) := rfl
set_option maxRecDepth 100000 in
theorem bi_cwj124 : tables_1[599]? = some (bi_cw 124) := rfl
set_option maxRecDepth 100000 in
theorem bi_cwj125 : tables_1[912]? = some (bi_cw 125) := rfl
set_option maxRecDepth 100000 in
theorem bi_cwj126 : tables_1[545]? = some (bi_cw 126) := rfl
set_option maxRecDepth 100000 in
theorem bi_cwj127 : tables_1[1076]? = some (bi_cw 127) := rfl
set_option maxRecDepth 100000 in
theorem bi_cwj128 : tables_1[1107]? = some (bi_cw 128) := rfl
set_option maxRecDepth 100000 in
theorem bi_cwj129 : tables_1[1117]? = some (bi_cw 129) := rfl
set_option maxRecDepth 100000 in
theorem bi_cwj130 : tables_1[1133]? = some (bi_cw 130) := rfl
set_option maxRecDepth 100000 in
theorem bi_cwj131 : tables_1[1151]? = some (bi_cw 131) := rfl
set_option maxRecDepth 100000 in
theorem bi_cwj132 : tables_1[1159]? = some (bi_cw 132) := rfl
set_option maxRecDepth 100000 in
theorem bi_cwj133 : tables_1[1171]? = some (bi_cw 133) := rfl
set_option maxRecDepth 100000 in
theorem bi_cwj134 : tables_1[1182]? = some (bi_cw 134) := rfl
set_option maxRecDepth 100000 in
theorem bi_cwj135 : tables_1[1206]? = some (bi_cw 135) := rfl
set_option maxRecDepth 100000 in
theorem bi_cwj136 : tables_1[1227]? = some (bi_cw 136) := rfl
set_option maxRecDepth 100000 in
theorem bi_cwj137 : tables_1[1242]? = some (bi_cw 137) := rfl
set_option maxRecDepth 100000 in
theorem bi_cwj138 : tables_1[1253]? = some (bi_cw 138) := rfl
set_option maxRecDepth 100000 in
theorem bi_cwj139 : tables_1[549]? = some (bi_cw 139) := rfl
set_option maxRecDepth 100000 in
theorem bi_cwj140 : tables_1[1264]? = some (bi_cw 140) := rfl
set_option maxRecDepth 100000 in
theorem bi_cwj141 : tables_1[1275]? = some (bi_cw 141) := rfl
set_option maxRecDepth 100000 in
theorem bi_cwj142 : tables_1[1292]? = some (bi_cw 142) := rfl
set_option maxRecDepth 100000 in
theorem bi_cwj143 : tables_1[1335]? = some (bi_cw 143) := rfl
set_option maxRecDepth 100000 in
theorem bi_cwj144 : tables_1[1344]? = some (bi_cw 144) := rfl
set_option maxRecDepth 100000 in
theorem bi_cwj145 : tables_1[575]? = some (bi_cw 145) := rfl
set_option maxRecDepth 100000 in
theorem bi_cwj146 : tables_1[1355]? = some (bi_cw 146) := rfl
set_option maxRecDepth 100000 in
theorem bi_cwj147 : tables_1[1363]? = some (bi_cw 147) := rfl
set_option maxRecDepth 100000 in
theorem bi_cwj148 : tables_1[1383]? = some (bi_cw 148) := rfl
set_option maxRecDepth 100000 in
theorem bi_cwj149 : tables_1[1397]? = some (bi_cw 149) := rfl
set_option maxRecDepth 100000 in
theorem bi_cwj150 : tables_1[583]? = some (bi_cw 150) := rfl
set_option maxRecDepth 100000 in
theorem bi_cwj151 : tables_1[591]? = some (bi_cw 151) := rfl
set_option maxRecDepth 100000 in
theorem bi_cwj152 : tables_1[904]? = some (bi_cw 152) := rfl
set_option maxRecDepth 100000 in
theorem bi_cwj153 : tables_1[603]? = some (bi_cw 153) := rfl
set_option maxRecDepth 100000 in
theorem bi_cwj154 : tables_1[916]? = some (bi_cw 154) := rfl
set_option maxRecDepth 100000 in
theorem bi_cwj155 : tables_1[938]? = some (bi_cw 155) := rfl
set_option maxRecDepth 100000 in
theorem bi_cwj156 : tables_1[1137]? = some (bi_cw 156) := rfl
set_option maxRecDepth 100000 in
theorem bi_cwj157 : tables_1[1121]? = some (bi_cw 157) := rfl
set_option maxRecDepth 100000 in
theorem bi_cwj158 : tables_1[1125]? = some (bi_cw 158) := rfl
set_option maxRecDepth 100000 in
theorem bi_cwj159 : tables_1[919]? = some (bi_cw 159) := rfl
set_option maxRecDepth 100000 in
theorem bi_cwj160 : tables_1[955]? = some (bi_cw 160) := rfl
set_option maxRecDepth 100000 in
theorem bi_cwj161 : tables_1[1414]? = some (bi_cw 161) := rfl
set_option maxRecDepth 100000 in
theorem bi_cwj162 : tables_1[1640]? = some (bi_cw 162) := rfl
set_option maxRecDepth 100000 in
theorem bi_cwj163 : tables_1[1656]? = some (bi_cw 163) := rfl
set_option maxRecDepth 100000 in
theorem bi_cwj164 : tables_1[1802]? = some (bi_cw 164) := rfl
set_option maxRecDepth 100000 in
theorem bi_cwj165 : tables_1[1787]? = some (bi_cw 165) := rfl
set_option maxRecDepth 100000 in
theorem bi_cwj166 : tables_1[1849]? = some (bi_cw 166) := rfl
set_option maxRecDepth 100000 in
theorem bi_cwj167 : tables_1[1644]? = some (bi_cw 167) := rfl
set_option maxRecDepth 100000 in
theorem bi_cwj168 : tables_1[1648]? = some (bi_cw 168) := rfl
set_option maxRecDepth 100000 in
theorem bi_cwj169 : tables_1[1668]? = some (bi_cw 169) := rfl
set_option maxRecDepth 100000 in
theorem bi_cwj170 : tables_1[1671]? = some (bi_cw 170) := rfl
set_option maxRecDepth 100000 in
theorem bi_cwj171 : tables_1[1674]? = some (bi_cw 171) := rfl
set_option maxRecDepth 100000 in
theorem bi_cwj172 : tables_1[1664]? = some (bi_cw 172) := rfl
set_option maxRecDepth 100000 in
theorem bi_cwj173 : tables_1[1684]? = some (bi_cw 173) := rfl
set_option maxRecDepth 100000 in
theorem bi_cwj174 : tables_1[1681]? = some (bi_cw 174) := rfl
set_option maxRecDepth 100000 in
theorem bi_cwj175 : tables_1[1678]? = some (bi_cw 175) := rfl
set_option maxRecDepth 100000 in
theorem bi_cwj176 : tables_1[1697]? = some (bi_cw 176) := rfl
set_option maxRecDepth 100000 in
theorem bi_cwj177 : tables_1[1693]? = some (bi_cw 177) := rfl
set_option maxRecDepth 100000 in
theorem bi_cwj178 : tables_1[1701]? = some (bi_cw 178) := rfl
set_option maxRecDepth 100000 in
theorem bi_cwj179 : tables_1[1705]? = some (bi_cw 179) := rfl
set_option maxRecDepth 100000 in
theorem bi_cwj180 : tables_1[1689]? = some (bi_cw 180) := rfl
set_option maxRecDepth 100000 in
theorem bi_cwj181 : tables_1[1725]? = some (bi_cw 181) := rfl
set_option maxRecDepth 100000 in
theorem bi_cwj182 : tables_1[1721]? = some (bi_cw 182) := rfl
set_option maxRecDepth 100000 in
theorem bi_cwj183 : tables_1[1761]? = some (bi_cw 183) := rfl
set_option maxRecDepth 100000 in
theorem bi_cwj184 : tables_1[1757]? = some (bi_cw 184) := rfl
set_option maxRecDepth 100000 in
theorem bi_cwj185 : tables_1[1768]? = some (bi_cw 185) := rfl
set_option maxRecDepth 100000 in
theorem bi_cwj186 : tables_1[1771]? = some (bi_cw 186) := rfl
set_option maxRecDepth 100000 in
theorem bi_cwj187 : tables_1[1765]? = some (bi_cw 187) := rfl
set_option maxRecDepth 100000 in
theorem bi_cwj188 : tables_1[1749]? = some (bi_cw 188) := rfl
set_option maxRecDepth 100000 in
theorem bi_cwj189 : tables_1[1753]? = some (bi_cw 189) := rfl
set_option maxRecDepth 100000 in
theorem bi_cwj190 : tables_1[1741]? = some (bi_cw 190) := rfl
set_option maxRecDepth 100000 in
theorem bi_cwj191 : tables_1[1745]? = some (bi_cw 191) := rfl
set_option maxRecDepth 100000 in
theorem bi_cwj192 : tables_1[1775]? = some (bi_cw 192) := rfl
set_option maxRecDepth 100000 in
theorem bi_cwj193 : tables_1[1779]? = some (bi_cw 193) := rfl
set_option maxRecDepth 100000 in
theorem bi_cwj194 : tables_1[1737]? = some (bi_cw 194) := rfl
set_option maxRecDepth 100000 in
theorem bi_cwj195 : tables_1[1713]? = some (bi_cw 195) := rfl
set_option maxRecDepth 100000 in
theorem bi_cwj196 : tables_1[1717]? = some (bi_cw 196) := rfl
set_option maxRecDepth 100000 in
theorem bi_cwj197 : tables_1[1729]? = some (bi_cw 197) := rfl
set_option maxRecDepth 100000 in
theorem bi_cwj198 : tables_1[1733]? = some (bi_cw 198) := rfl
set_option maxRecDepth 100000 in
theorem bi_cwj199 : tables_1[1783]? = some (bi_cw 199) := rfl
set_option maxRecDepth 100000 in
theorem bi_cwj200 : tables_1[1709]? = some (bi_cw 200) := rfl
set_option maxRecDepth 100000 in
theorem bi_cwj201 : tables_1[1660]? = some (bi_cw 201) := rfl
set_option maxRecDepth 100000 in
theorem bi_cwj202 : tables_1[1652]? = some (bi_cw 202) := rfl
set_option maxRecDepth 100000 in
theorem bi_cwj203 : tables_1[1791]? = some (bi_cw 203) := rfl
set_option maxRecDepth 100000 in
theorem bi_cwj204 : tables_1[1953]? = some (bi_cw 204) := rfl
set_option maxRecDepth 100000 in
theorem bi_cwj205 : tables_1[1949]? = some (bi_cw 205) := rfl
set_option maxRecDepth 100000 in
theorem bi_cwj206 : tables_1[1795]? = some (bi_cw 206) := rfl
set_option maxRecDepth 100000 in
theorem bi_cwj207 : tables_1[1861]? = some (bi_cw 207) := rfl
set_option maxRecDepth 100000 in
theorem bi_cwj208 : tables_1[1822]? = some (bi_cw 208) := rfl
set_option maxRecDepth 100000 in
theorem bi_cwj209 : tables_1[1846]? = some (bi_cw 209) := rfl
set_option maxRecDepth 100000 in
theorem bi_cwj210 : tables_1[1842]? = some (bi_cw 210) := rfl
set_option maxRecDepth 100000 in
theorem bi_cwj211 : tables_1[1818]? = some (bi_cw 211) := rfl
set_option maxRecDepth 100000 in
theorem bi_cwj212 : tables_1[1826]? = some (bi_cw 212) := rfl
set_option maxRecDepth 100000 in
theorem bi_cwj213 : tables_1[1834]? = some (bi_cw 213) := rfl
set_option maxRecDepth 100000 in
theorem bi_cwj214 : tables_1[1838]? = some (bi_cw 214) := rfl
set_option maxRecDepth 100000 in
theorem bi_cwj215 : tables_1[1830]? = some (bi_cw 215) := rfl
set_option maxRecDepth 100000 in
theorem bi_cwj216 : tables_1[1814]? = some (bi_cw 216) := rfl
set_option maxRecDepth 100000 in
theorem bi_cwj217 : tables_1[1810]? = some (bi_cw 217) := rfl
set_option maxRecDepth 100000 in
theorem bi_cwj218 : tables_1[1806]? = some (bi_cw 218) := rfl
set_option maxRecDepth 100000 in
theorem bi_cwj219 : tables_1[1857]? = some (bi_cw 219) := rfl
set_option maxRecDepth 100000 in
theorem bi_cwj220 : tables_1[1853]? = some (bi_cw 220) := rfl
set_option maxRecDepth 100000 in
theorem bi_cwj221 : tables_1[1799]? = some (bi_cw 221) := rfl
set_option maxRecDepth 100000 in
theorem bi_cwj222 : tables_1[1869]? = some (bi_cw 222) := rfl
set_option maxRecDepth 100000 in
theorem bi_cwj223 : tables_1[1885]? = some (bi_cw 223) := rfl
set_option maxRecDepth 100000 in
theorem bi_cwj224 : tables_1[1873]? = some (bi_cw 224) := rfl
set_option maxRecDepth 100000 in
theorem bi_cwj225 : tables_1[1877]? = some (bi_cw 225) := rfl
set_option maxRecDepth 100000 in
theorem bi_cwj226 : tables_1[1865]? = some (bi_cw 226) := rfl
set_option maxRecDepth 100000 in
theorem bi_cwj227 : tables_1[1881]? = some (bi_cw 227) := rfl
set_option maxRecDepth 100000 in
theorem bi_cwj228 : tables_1[1889]? = some (bi_cw 228) := rfl
set_option maxRecDepth 100000 in
theorem bi_cwj229 : tables_1[1893]? = some (bi_cw 229) := rfl
set_option maxRecDepth 100000 in
theorem bi_cwj230 : tables_1[1909]? = some (bi_cw 230) := rfl
set_option maxRecDepth 100000 in
theorem bi_cwj231 : tables_1[1905]? = some (bi_cw 231) := rfl
set_option maxRecDepth 100000 in
theorem bi_cwj232 : tables_1[1901]? = some (bi_cw 232) := rfl
set_option maxRecDepth 100000 in
theorem bi_cwj233 : tables_1[1917]? = some (bi_cw 233) := rfl
set_option maxRecDepth 100000 in
theorem bi_cwj234 : tables_1[1913]? = some (bi_cw 234) := rfl
set_option maxRecDepth 100000 in
theorem bi_cwj235 : tables_1[1925]? = some (bi_cw 235) := rfl
set_option maxRecDepth 100000 in
theorem bi_cwj236 : tables_1[1921]? = some (bi_cw 236) := rfl
set_option maxRecDepth 100000 in
theorem bi_cwj237 : tables_1[1897]? = some (bi_cw 237) := rfl
set_option maxRecDepth 100000 in
theorem bi_cwj238 : tables_1[1929]? = some (bi_cw 238) := rfl
set_option maxRecDepth 100000 in
theorem bi_cwj239 : tables_1[1933]? = some (bi_cw 239) := rfl
set_option maxRecDepth 100000 in
theorem bi_cwj240 : tables_1[1941]? = some (bi_cw 240) := rfl
set_option maxRecDepth 100000 in
theorem bi_cwj241 : tables_1[1945]? = some (bi_cw 241) := rfl
set_option maxRecDepth 100000 in
theorem bi_cwj242 : tables_1[1961]? = some (bi_cw 242) := rfl
set_option maxRecDepth 100000 in
theorem bi_cwj243 : tables_1[1965]? = some (bi_cw 243) := rfl
set_option maxRecDepth 100000 in
theorem bi_cwj244 : tables_1[1973]? = some (bi_cw 244) := rfl
set_option maxRecDepth 100000 in
theorem bi_cwj245 : tables_1[1937]? = some (bi_cw 245) := rfl
set_option maxRecDepth 100000 in
theorem bi_cwj246 : tables_1[1957]? = some (bi_cw 246) := rfl
set_option maxRecDepth 100000 in
theorem bi_cwj247 : tables_1[1969]? = some (bi_cw 247) := rfl
set_option maxRecDepth 100000 in
theorem bi_cwj248 : tables_1[1977]? = some (bi_cw 248) := rfl
set_option maxRecDepth 100000 in
theorem bi_cwj249 : tables_1[1981]? = some (bi_cw 249) := rfl
set_option maxRecDepth 100000 in
theorem bi_cwj250 : tables_1[1985]? = some (bi_cw 250) := rfl
set_option maxRecDepth 100000 in
theorem bi_cwj251 : tables_1[1989]? = some (bi_cw 251) := rfl
set_option maxRecDepth 100000 in
theorem bi_cwj252 : tables_1[1993]? = some (bi_cw 252) := rfl
set_option maxRecDepth 100000 in
theorem bi_cwj253 : tables_1[2001]? = some (bi_cw 253) := rfl
set_option maxRecDepth 100000 in
theorem bi_cwj254 : tables_1[2004]? = some (bi_cw 254) := rfl
set_option maxRecDepth 100000 in
theorem bi_cwj255 : tables_1[1997]? = some (bi_cw 255) := rfl
set_option maxRecDepth 100000 in
theorem bi_cwj256 : tables_1[2008]? = some (bi_cw 256) := rfl
set_option maxRecDepth 100000 in
theorem bi_cwj257 : tables_1[2012]? = some (bi_cw 257) := rfl
set_option maxRecDepth 100000 in
theorem bi_cwj258 : tables_1[2020]? = some (bi_cw 258) := rfl
set_option maxRecDepth 100000 in
theorem bi_cwj259 : tables_1[2024]? = some (bi_cw 259) := rfl
set_option maxRecDepth 100000 in
theorem bi_cwj260 : tables_1[2016]? = some (bi_cw 260) := rfl
set_option maxRecDepth 100000 in
theorem bi_cwj261 : tables_1[2028]? = some (bi_cw 261) := rfl
set_option maxRecDepth 100000 in
theorem bi_cwj262 : tables_1[2032]? = some (bi_cw 262) := rfl
set_option maxRecDepth 100000 in
theorem bi_cwj263 : tables_1[2044]? = some (bi_cw 263) := rfl
set_option maxRecDepth 100000 in
theorem bi_cwj264 : tables_1[2040]? = some (bi_cw 264) := rfl
set_option maxRecDepth 100000 in
theorem bi_cwj265 : tables_1[2036]? = some (bi_cw 265) := rfl
set_option maxRecDepth 100000 in
theorem bi_cwj266 : tables_1[2049]? = some (bi_cw 266) := rfl
set_option maxRecDepth 100000 in
theorem bi_cwj267 : tables_1[2053]? = some (bi_cw 267) := rfl
set_option maxRecDepth 100000 in
theorem bi_cwj268 : tables_1[1084]? = some (bi_cw 268) := rfl
set_option maxRecDepth 100000 in
theorem bi_cwj269 : tables_1[556]? = some (bi_cw 269) := rfl
set_option maxRecDepth 100000 in
theorem bi_cwj270 : tables_1[689]? = some (bi_cw 270) := rfl
set_option maxRecDepth 100000 in
theorem bi_cwj271 : tables_1[594]? = some (bi_cw 271) := rfl
set_option maxRecDepth 100000 in
theorem bi_cwj272 : tables_1[907]? = some (bi_cw 272) := rfl
set_option maxRecDepth 100000 in
theorem bi_cwj273 : tables_1[1072]? = some (bi_cw 273) := rfl
set_option maxRecDepth 100000 in
theorem bi_cwj274 : tables_1[1103]? = some (bi_cw 274) := rfl
set_option maxRecDepth 100000 in
theorem bi_cwj275 : tables_1[1113]? = some (bi_cw 275) := rfl
set_option maxRecDepth 100000 in
theorem bi_cwj276 : tables_1[1129]? = some (bi_cw 276) := rfl
set_option maxRecDepth 100000 in
theorem bi_cwj277 : tables_1[1147]? = some (bi_cw 277) := rfl
set_option maxRecDepth 100000 in
theorem bi_cwj278 : tables_1[1155]? = some (bi_cw 278) := rfl
set_option maxRecDepth 100000 in
theorem bi_cwj279 : tables_1[1167]? = some (bi_cw 279) := rfl
set_option maxRecDepth 100000 in
theorem bi_cwj280 : tables_1[1178]? = some (bi_cw 280) := rfl
set_option maxRecDepth 100000 in
theorem bi_cwj281 : tables_1[1202]? = some (bi_cw 281) := rfl
set_option maxRecDepth 100000 in
theorem bi_cwj282 : tables_1[1223]? = some (bi_cw 282) := rfl
set_option maxRecDepth 100000 in
theorem bi_cwj283 : tables_1[1238]? = some (bi_cw 283) := rfl
set_option maxRecDepth 100000 in
theorem bi_cwj284 : tables_1[1249]? = some (bi_cw 284) := rfl
set_option maxRecDepth 100000 in
theorem bi_cwj285 : tables_1[1260]? = some (bi_cw 285) := rfl
set_option maxRecDepth 100000 in
theorem bi_cwj286 : tables_1[1271]? = some (bi_cw 286) := rfl
set_option maxRecDepth 100000 in
theorem bi_cwj287 : tables_1[1288]? = some (bi_cw 287) := rfl
set_option maxRecDepth 100000 in
theorem bi_cwj288 : tables_1[1331]? = some (bi_cw 288) := rfl
set_option maxRecDepth 100000 in
theorem bi_cwj289 : tables_1[1340]? = some (bi_cw 289) := rfl
set_option maxRecDepth 100000 in
theorem bi_cwj290 : tables_1[1351]? = some (bi_cw 290) := rfl
set_option maxRecDepth 100000 in
theorem bi_cwj291 : tables_1[1359]? = some (bi_cw 291) := rfl
set_option maxRecDepth 100000 in
theorem bi_cwj292 : tables_1[1379]? = some (bi_cw 292) := rfl
set_option maxRecDepth 100000 in
theorem bi_cwj293 : tables_1[1393]? = some (bi_cw 293) := rfl
theorem bi_cwr0 : ∀ j, 0 ≤ j → j < 25 → bi_cw j ∈ bi_T9 := by
  intro j h1 h2
  rcases Nat.eq_or_lt_of_le h1 with h1 | h1
  · rw [← h1]; exact bi_in9 bi_cwj0 rfl
  rcases Nat.eq_or_lt_of_le h1 with h1 | h1
  · rw [← h1]; exact bi_in9 bi_cwj1 rfl
  rcases Nat.eq_or_lt_of_le h1 with h1 | h1
  · rw [← h1]; exact bi_in9 bi_cwj2 rfl
  rcases Nat.eq_or_lt_of_le h1 with h1 | h1
  · rw [← h1]; exact bi_in9 bi_cwj3 rfl
  rcases Nat.eq_or_lt_of_le h1 with h1 | h1
  · rw [← h1]; exact bi_in9 bi_cwj4 rfl
  rcases Nat.eq_or_lt_of_le h1 with h1 | h1
  · rw [← h1]; exact bi_in9 bi_cwj5 rfl
  rcases Nat.eq_or_lt_of_le h1 with h1 | h1
  · rw [← h1]; exact bi_in9 bi_cwj6 rfl
  rcases Nat.eq_or_lt_of_le h1 with h1 | h1
  · rw [← h1]; exact bi_in9 bi_cwj7 rfl
  rcases Nat.eq_or_lt_of_le h1 with h1 | h1
  · rw [← h1]; exact bi_in9 bi_cwj8 rfl
  rcases Nat.eq_or_lt_of_le h1 with h1 | h1
  · rw [← h1]; exact bi_in9 bi_cwj9 rfl
  rcases Nat.eq_or_lt_of_le h1 with h1 | h1
  · rw [← h1]; exact bi_in9 bi_cwj10 rfl
  rcases Nat.eq_or_lt_of_le h1 with h1 | h1
  · rw [← h1]; exact bi_in9 bi_cwj11 rfl
  rcases Nat.eq_or_lt_of_le h1 with h1 | h1
  · rw [← h1]; exact bi_in9 bi_cwj12 rfl
  rcases Nat.eq_or_lt_of_le h1 with h1 | h1
  · rw [← h1]; exact bi_in9 bi_cwj13 rfl
  rcases Nat.eq_or_lt_of_le h1 with h1 | h1
  · rw [← h1]; exact bi_in9 bi_cwj14 rfl
  rcases Nat.eq_or_lt_of_le h1 with h1 | h1
  · rw [← h1]; exact bi_in9 bi_cwj15 rfl
  rcases Nat.eq_or_lt_of_le h1 with h1 | h1
  · rw [← h1]; exact bi_in9 bi_cwj16 rfl
  rcases Nat.eq_or_lt_of_le h1 with h1 | h1
  · rw [← h1]; exact bi_in9 bi_cwj17 rfl
  rcases Nat.eq_or_lt_of_le h1 with h1 | h1
  · rw [← h1]; exact bi_in9 bi_cwj18 rfl
  rcases Nat.eq_or_lt_of_le h1 with h1 | h1
  · rw [← h1]; exact bi_in9 bi_cwj19 rfl
  rcases Nat.eq_or_lt_of_le h1 with h1 | h1
  · rw [← h1]; exact bi_in9 bi_cwj20 rfl
  rcases Nat.eq_or_lt_of_le h1 with h1 | h1
  · rw [← h1]; exact bi_in9 bi_cwj21 rfl
  rcases Nat.eq_or_lt_of_le h1 with h1 | h1
  · rw [← h1]; exact bi_in9 bi_cwj22 rfl
  rcases Nat.eq_or_lt_of_le h1 with h1 | h1
  · rw [← h1]; exact bi_in9 bi_cwj23 rfl
  rcases Nat.eq_or_lt_of_le h1 with h1 | h1
  · rw [← h1]; exact bi_in9 bi_cwj24 rfl
  omega
theorem bi_cwr25 : ∀ j, 25 ≤ j → j < 50 → bi_cw j ∈ bi_T9 := by
  intro j h1 h2
  rcases Nat.eq_or_lt_of_le h1 with h1 | h1
  · rw [← h1]; exact bi_in9 bi_cwj25 rfl
  rcases Nat.eq_or_lt_of_le h1 with h1 | h1
  · rw [← h1]; exact bi_in9 bi_cwj26 rfl
  rcases Nat.eq_or_lt_of_le h1 with h1 | h1
  · rw [← h1]; exact bi_in9 bi_cwj27 rfl
  rcases Nat.eq_or_lt_of_le h1 with h1 | h1
  · rw [← h1]; exact bi_in9 bi_cwj28 rfl
  rcases Nat.eq_or_lt_of_le h1 with h1 | h1
  · rw [← h1]; exact bi_in9 bi_cwj29 rfl
  rcases Nat.eq_or_lt_of_le h1 with h1 | h1
  · rw [← h1]; exact bi_in9 bi_cwj30 rfl
  rcases Nat.eq_or_lt_of_le h1 with h1 | h1
  · rw [← h1]; exact bi_in9 bi_cwj31 rfl
  rcases Nat.eq_or_lt_of_le h1 with h1 | h1
  · rw [← h1]; exact bi_in9 bi_cwj32 rfl
  rcases Nat.eq_or_lt_of_le h1 with h1 | h1
  · rw [← h1]; exact bi_in9 bi_cwj33 rfl
  rcases Nat.eq_or_lt_of_le h1 with h1 | h1
  · rw [← h1]; exact bi_in9 bi_cwj34 rfl
  rcases Nat.eq_or_lt_of_le h1 with h1 | h1
  · rw [← h1]; exact bi_in9 bi_cwj35 rfl
  rcases Nat.eq_or_lt_of_le h1 with h1 | h1
  · rw [← h1]; exact bi_in9 bi_cwj36 rfl
  rcases Nat.eq_or_lt_of_le h1 with h1 | h1
  · rw [← h1]; exact bi_in9 bi_cwj37 rfl
  rcases Nat.eq_or_lt_of_le h1 with h1 | h1
  · rw [← h1]; exact bi_in9 bi_cwj38 rfl
  rcases Nat.eq_or_lt_of_le h1 with h1 | h1
  · rw [← h1]; exact bi_in9 bi_cwj39 rfl
  rcases Nat.eq_or_lt_of_le h1 with h1 | h1
  · rw [← h1]; exact bi_in9 bi_cwj40 rfl
  rcases Nat.eq_or_lt_of_le h1 with h1 | h1
  · rw [← h1]; exact bi_in9 bi_cwj41 rfl
  rcases Nat.eq_or_lt_of_le h1 with h1 | h1
  · rw [← h1]; exact bi_in9 bi_cwj42 rfl
  rcases Nat.eq_or_lt_of_le h1 with h1 | h1
  · rw [← h1]; exact bi_in9 bi_cwj43 rfl
  rcases Nat.eq_or_lt_of_le h1 with h1 | h1
  · rw [← h1]; exact bi_in9 bi_cwj44 rfl
  rcases Nat.eq_or_lt_of_le h1 with h1 | h1
  · rw [← h1]; exact bi_in9 bi_cwj45 rfl
  rcases Nat.eq_or_lt_of_le h1 with h1 | h1
  · rw [← h1]; exact bi_in9 bi_cwj46 rfl
  rcases Nat.eq_or_lt_of_le h1 with h1 | h1
  · rw [← h1]; exact bi_in9 bi_cwj47 rfl
  rcases Nat.eq_or_lt_of_le h1 with h1 | h1
  · rw [← h1]; exact bi_in9 bi_cwj48 rfl
  rcases Nat.eq_or_lt_of_le h1 with h1 | h1
  · rw [← h1]; exact bi_in9 bi_cwj49 rfl
  omega
theorem bi_cwr50 : ∀ j, 50 ≤ j → j < 75 → bi_cw j ∈ bi_T9 := by
  intro j h1 h2
  rcases Nat.eq_or_lt_of_le h1 with h1 | h1
  · rw [← h1]; exact bi_in9 bi_cwj50 rfl
  rcases Nat.eq_or_lt_of_le h1 with h1 | h1
  · rw [← h1]; exact bi_in9 bi_cwj51 rfl
  rcases Nat.eq_or_lt_of_le h1 with h1 | h1
  · rw [← h1]; exact bi_in9 bi_cwj52 rfl
  rcases Nat.eq_or_lt_of_le h1 with h1 | h1
  · rw [← h1]; exact bi_in9 bi_cwj53 rfl
  rcases Nat.eq_or_lt_of_le h1 with h1 | h1
  · rw [← h1]; exact bi_in9 bi_cwj54 rfl
  rcases Nat.eq_or_lt_of_le h1 with h1 | h1
  · rw [← h1]; exact bi_in9 bi_cwj55 rfl
  rcases Nat.eq_or_lt_of_le h1 with h1 | h1
  · rw [← h1]; exact bi_in9 bi_cwj56 rfl
  rcases Nat.eq_or_lt_of_le h1 with h1 | h1
  · rw [← h1]; exact bi_in9 bi_cwj57 rfl
  rcases Nat.eq_or_lt_of_le h1 with h1 | h1
  · rw [← h1]; exact bi_in9 bi_cwj58 rfl
  rcases Nat.eq_or_lt_of_le h1 with h1 | h1
  · rw [← h1]; exact bi_in9 bi_cwj59 rfl
  rcases Nat.eq_or_lt_of_le h1 with h1 | h1
  · rw [← h1]; exact bi_in9 bi_cwj60 rfl
  rcases Nat.eq_or_lt_of_le h1 with h1 | h1
  · rw [← h1]; exact bi_in9 bi_cwj61 rfl
  rcases Nat.eq_or_lt_of_le h1 with h1 | h1
  · rw [← h1]; exact bi_in9 bi_cwj62 rfl
  rcases Nat.eq_or_lt_of_le h1 with h1 | h1
  · rw [← h1]; exact bi_in9 bi_cwj63 rfl
  rcases Nat.eq_or_lt_of_le h1 with h1 | h1
  · rw [← h1]; exact bi_in9 bi_cwj64 rfl
  rcases Nat.eq_or_lt_of_le h1 with h1 | h1
  · rw [← h1]; exact bi_in9 bi_cwj65 rfl
  rcases Nat.eq_or_lt_of_le h1 with h1 | h1
  · rw [← h1]; exact bi_in9 bi_cwj66 rfl
  rcases Nat.eq_or_lt_of_le h1 with h1 | h1
  · rw [← h1]; exact bi_in9 bi_cwj67 rfl
  rcases Nat.eq_or_lt_of_le h1 with h1 | h1
  · rw [← h1]; exact bi_in9 bi_cwj68 rfl
  rcases Nat.eq_or_lt_of_le h1 with h1 | h1
  · rw [← h1]; exact bi_in9 bi_cwj69 rfl
  rcases Nat.eq_or_lt_of_le h1 with h1 | h1
  · rw [← h1]; exact bi_in9 bi_cwj70 rfl
  rcases Nat.eq_or_lt_of_le h1 with h1 | h1
  · rw [← h1]; exact bi_in9 bi_cwj71 rfl
  rcases Nat.eq_or_lt_of_le h1 with h1 | h1
  · rw [← h1]; exact bi_in9 bi_cwj72 rfl
  rcases Nat.eq_or_lt_of_le h1 with h1 | h1
  · rw [← h1]; exact bi_in9 bi_cwj73 rfl
  rcases Nat.eq_or_lt_of_le h1 with h1 | h1
  · rw [← h1]; exact bi_in9 bi_cwj74 rfl
  omega
theorem bi_cwr75 : ∀ j, 75 ≤ j → j < 100 → bi_cw j ∈ bi_T9 := by
  intro j h1 h2
  rcases Nat.eq_or_lt_of_le h1 with h1 | h1
  · rw [← h1]; exact bi_in9 bi_cwj75 rfl
  rcases Nat.eq_or_lt_of_le h1 with h1 | h1
  · rw [← h1]; exact bi_in9 bi_cwj76 rfl
  rcases Nat.eq_or_lt_of_le h1 with h1 | h1
  · rw [← h1]; exact bi_in9 bi_cwj77 rfl
  rcases Nat.eq_or_lt_of_le h1 with h1 | h1
  · rw [← h1]; exact bi_in9 bi_cwj78 rfl
  rcases Nat.eq_or_lt_of_le h1 with h1 | h1
  · rw [← h1]; exact bi_in9 bi_cwj79 rfl
  rcases Nat.eq_or_lt_of_le h1 with h1 | h1
  · rw [← h1]; exact bi_in9 bi_cwj80 rfl
  rcases Nat.eq_or_lt_of_le h1 with h1 | h1
  · rw [← h1]; exact bi_in9 bi_cwj81 rfl
  rcases Nat.eq_or_lt_of_le h1 with h1 | h1
  · rw [← h1]; exact bi_in9 bi_cwj82 rfl
  rcases Nat.eq_or_lt_of_le h1 with h1 | h1
  · rw [← h1]; exact bi_in9 bi_cwj83 rfl
  rcases Nat.eq_or_lt_of_le h1 with h1 | h1
  · rw [← h1]; exact bi_in9 bi_cwj84 rfl
  rcases Nat.eq_or_lt_of_le h1 with h1 | h1
  · rw [← h1]; exact bi_in9 bi_cwj85 rfl
  rcases Nat.eq_or_lt_of_le h1 with h1 | h1
  · rw [← h1]; exact bi_in9 bi_cwj86 rfl
  rcases Nat.eq_or_lt_of_le h1 with h1 | h1
  · rw [← h1]; exact bi_in9 bi_cwj87 rfl
  rcases Nat.eq_or_lt_of_le h1 with h1 | h1
  · rw [← h1]; exact bi_in9 bi_cwj88 rfl
  rcases Nat.eq_or_lt_of_le h1 with h1 | h1
  · rw [← h1]; exact bi_in9 bi_cwj89 rfl
  rcases Nat.eq_or_lt_of_le h1 with h1 | h1
  · rw [← h1]; exact bi_in9 bi_cwj90 rfl
  rcases Nat.eq_or_lt_of_le h1 with h1 | h1
  · rw [← h1]; exact bi_in9 bi_cwj91 rfl
  rcases Nat.eq_or_lt_of_le h1 with h1 | h1
  · rw [← h1]; exact bi_in9 bi_cwj92 rfl
  rcases Nat.eq_or_lt_of_le h1 with h1 | h1
  · rw [← h1]; exact bi_in9 bi_cwj93 rfl
  rcases Nat.eq_or_lt_of_le h1 with h1 | h1
  · rw [← h1]; exact bi_in9 bi_cwj94 rfl
  rcases Nat.eq_or_lt_of_le h1 with h1 | h1
  · rw [← h1]; exact bi_in9 bi_cwj95 rfl
  rcases Nat.eq_or_lt_of_le h1 with h1 | h1
  · rw [← h1]; exact bi_in9 bi_cwj96 rfl
  rcases Nat.eq_or_lt_of_le h1 with h1 | h1
  · rw [← h1]; exact bi_in9 bi_cwj97 rfl
  rcases Nat.eq_or_lt_of_le h1 with h1 | h1
  · rw [← h1]; exact bi_in9 bi_cwj98 rfl
  rcases Nat.eq_or_lt_of_le h1 with h1 | h1
  · rw [← h1]; exact bi_in9 bi_cwj99 rfl
  omega
theorem bi_cwr100 : ∀ j, 100 ≤ j → j < 125 → bi_cw j ∈ bi_T9 := by
  intro j h1 h2
  rcases Nat.eq_or_lt_of_le h1 with h1 | h1
  · rw [← h1]; exact bi_in9 bi_cwj100 rfl
  rcases Nat.eq_or_lt_of_le h1 with h1 | h1
  · rw [← h1]; exact bi_in9 bi_cwj101 rfl
  rcases Nat.eq_or_lt_of_le h1 with h1 | h1
  · rw [← h1]; exact bi_in9 bi_cwj102 rfl
  rcases Nat.eq_or_lt_of_le h1 with h1 | h1
  · rw [← h1]; exact bi_in9 bi_cwj103 rfl
  rcases Nat.eq_or_lt_of_le h1 with h1 | h1
  · rw [← h1]; exact bi_in9 bi_cwj104 rfl
  rcases Nat.eq_or_lt_of_le h1 with h1 | h1
  · rw [← h1]; exact bi_in9 bi_cwj105 rfl
  rcases Nat.eq_or_lt_of_le h1 with h1 | h1
  · rw [← h1]; exact bi_in9 bi_cwj106 rfl
  rcases Nat.eq_or_lt_of_le h1 with h1 | h1
  · rw [← h1]; exact bi_in9 bi_cwj107 rfl
  rcases Nat.eq_or_lt_of_le h1 with h1 | h1
  · rw [← h1]; exact bi_in9 bi_cwj108 rfl
  rcases Nat.eq_or_lt_of_le h1 with h1 | h1
  · rw [← h1]; exact bi_in9 bi_cwj109 rfl
  rcases Nat.eq_or_lt_of_le h1 with h1 | h1
  · rw [← h1]; exact bi_in9 bi_cwj110 rfl
  rcases Nat.eq_or_lt_of_le h1 with h1 | h1
  · rw [← h1]; exact bi_in9 bi_cwj111 rfl
  rcases Nat.eq_or_lt_of_le h1 with h1 | h1
  · rw [← h1]; exact bi_in9 bi_cwj112 rfl
  rcases Nat.eq_or_lt_of_le h1 with h1 | h1
  · rw [← h1]; exact bi_in9 bi_cwj113 rfl
  rcases Nat.eq_or_lt_of_le h1 with h1 | h1
  · rw [← h1]; exact bi_in9 bi_cwj114 rfl
  rcases Nat.eq_or_lt_of_le h1 with h1 | h1
  · rw [← h1]; exact bi_in9 bi_cwj115 rfl
  rcases Nat.eq_or_lt_of_le h1 with h1 | h1
  · rw [← h1]; exact bi_in9 bi_cwj116 rfl
  rcases Nat.eq_or_lt_of_le h1 with h1 | h1
  · rw [← h1]; exact bi_in9 bi_cwj117 rfl
  rcases Nat.eq_or_lt_of_le h1 with h1 | h1
  · rw [← h1]; exact bi_in9 bi_cwj118 rfl
  rcases Nat.eq_or_lt_of_le h1 with h1 | h1
  · rw [← h1]; exact bi_in9 bi_cwj119 rfl
  rcases Nat.eq_or_lt_of_le h1 with h1 | h1
  · rw [← h1]; exact bi_in9 bi_cwj120 rfl
  rcases Nat.eq_or_lt_of_le h1 with h1 | h1
  · rw [← h1]; exact bi_in9 bi_cwj121 rfl
  rcases Nat.eq_or_lt_of_le h1 with h1 | h1
  · rw [← h1]; exact bi_in9 bi_cwj122 rfl
  rcases Nat.eq_or_lt_of_le h1 with h1 | h1
  · rw [← h1]; exact bi_in9 bi_cwj123 rfl
  rcases Nat.eq_or_lt_of_le h1 with h1 | h1
  · rw [← h1]; exact bi_in9 bi_cwj124 rfl
  omega
theorem bi_cwr125 : ∀ j, 125 ≤ j → j < 150 → bi_cw j ∈ bi_T9 := by
  intro j h1 h2
  rcases Nat.eq_or_lt_of_le h1 with h1 | h1
  · rw [← h1]; exact bi_in9 bi_cwj125 rfl
  rcases Nat.eq_or_lt_of_le h1 with h1 | h1
  · rw [← h1]; exact bi_in9 bi_cwj126 rfl
  rcases Nat.eq_or_lt_of_le h1 with h1 | h1
  · rw [← h1]; exact bi_in9 bi_cwj127 rfl
  rcases Nat.eq_or_lt_of_le h1 with h1 | h1
  · rw [← h1]; exact bi_in9 bi_cwj128 rfl
  rcases Nat.eq_or_lt_of_le h1 with h1 | h1
  · rw [← h1]; exact bi_in9 bi_cwj129 rfl
  rcases Nat.eq_or_lt_of_le h1 with h1 | h1
  · rw [← h1]; exact bi_in9 bi_cwj130 rfl
  rcases Nat.eq_or_lt_of_le h1 with h1 | h1
  · rw [← h1]; exact bi_in9 bi_cwj131 rfl
  rcases Nat.eq_or_lt_of_le h1 with h1 | h1
  · rw [← h1]; exact bi_in9 bi_cwj132 rfl
  rcases Nat.eq_or_lt_of_le h1 with h1 | h1
  · rw [← h1]; exact bi_in9 bi_cwj133 rfl
  rcases Nat.eq_or_lt_of_le h1 with h1 | h1
  · rw [← h1]; exact bi_in9 bi_cwj134 rfl
  rcases Nat.eq_or_lt_of_le h1 with h1 | h1
  · rw [← h1]; exact bi_in9 bi_cwj135 rfl
  rcases Nat.eq_or_lt_of_le h1 with h1 | h1
  · rw [← h1]; exact bi_in9 bi_cwj136 rfl
  rcases Nat.eq_or_lt_of_le h1 with h1 | h1
  · rw [← h1]; exact bi_in9 bi_cwj137 rfl
  rcases Nat.eq_or_lt_of_le h1 with h1 | h1
  · rw [← h1]; exact bi_in9 bi_cwj138 rfl
  rcases Nat.eq_or_lt_of_le h1 with h1 | h1
  · rw [← h1]; exact bi_in9 bi_cwj139 rfl
  rcases Nat.eq_or_lt_of_le h1 with h1 | h1
  · rw [← h1]; exact bi_in9 bi_cwj140 rfl
  rcases Nat.eq_or_lt_of_le h1 with h1 | h1
  · rw [← h1]; exact bi_in9 bi_cwj141 rfl
  rcases Nat.eq_or_lt_of_le h1 with h1 | h1
  · rw [← h1]; exact bi_in9 bi_cwj142 rfl
  rcases Nat.eq_or_lt_of_le h1 with h1 | h1
  · rw [← h1]; exact bi_in9 bi_cwj143 rfl
  rcases Nat.eq_or_lt_of_le h1 with h1 | h1
  · rw [← h1]; exact bi_in9 bi_cwj144 rfl
  rcases Nat.eq_or_lt_of_le h1 with h1 | h1
  · rw [← h1]; exact bi_in9 bi_cwj145 rfl
  rcases Nat.eq_or_lt_of_le h1 with h1 | h1
  · rw [← h1]; exact bi_in9 bi_cwj146 rfl
  rcases Nat.eq_or_lt_of_le h1 with h1 | h1
  · rw [← h1]; exact bi_in9 bi_cwj147 rfl
  rcases Nat.eq_or_lt_of_le h1 with h1 | h1
  · rw [← h1]; exact bi_in9 bi_cwj148 rfl
  rcases Nat.eq_or_lt_of_le h1 with h1 | h1
  · rw [← h1]; exact bi_in9 bi_cwj149 rfl
  omega
theorem bi_cwr150 : ∀ j, 150 ≤ j → j < 175 → bi_cw j ∈ bi_T9 := by
  intro j h1 h2
  rcases Nat.eq_or_lt_of_le h1 with h1 | h1
  · rw [← h1]; exact bi_in9 bi_cwj150 rfl
  rcases Nat.eq_or_lt_of_le h1 with h1 | h1
  · rw [← h1]; exact bi_in9 bi_cwj151 rfl
  rcases Nat.eq_or_lt_of_le h1 with h1 | h1
  · rw [← h1]; exact bi_in9 bi_cwj152 rfl
  rcases Nat.eq_or_lt_of_le h1 with h1 | h1
  · rw [← h1]; exact bi_in9 bi_cwj153 rfl
  rcases Nat.eq_or_lt_of_le h1 with h1 | h1
  · rw [← h1]; exact bi_in9 bi_cwj154 rfl
  rcases Nat.eq_or_lt_of_le h1 with h1 | h1
  · rw [← h1]; exact bi_in9 bi_cwj155 rfl
  rcases Nat.eq_or_lt_of_le h1 with h1 | h1
  · rw [← h1]; exact bi_in9 bi_cwj156 rfl
  rcases Nat.eq_or_lt_of_le h1 with h1 | h1
  · rw [← h1]; exact bi_in9 bi_cwj157 rfl
  rcases Nat.eq_or_lt_of_le h1 with h1 | h1
  · rw [← h1]; exact bi_in9 bi_cwj158 rfl
  rcases Nat.eq_or_lt_of_le h1 with h1 | h1
  · rw [← h1]; exact bi_in9 bi_cwj159 rfl
  rcases Nat.eq_or_lt_of_le h1 with h1 | h1
  · rw [← h1]; exact bi_in9 bi_cwj160 rfl
  rcases Nat.eq_or_lt_of_le h1 with h1 | h1
  · rw [← h1]; exact bi_in9 bi_cwj161 rfl
  rcases Nat.eq_or_lt_of_le h1 with h1 | h1
  · rw [← h1]; exact bi_in9 bi_cwj162 rfl
  rcases Nat.eq_or_lt_of_le h1 with h1 | h1
  · rw [← h1]; exact bi_in9 bi_cwj163 rfl
  rcases Nat.eq_or_lt_of_le h1 with h1 | h1
  · rw [← h1]; exact bi_in9 bi_cwj164 rfl
  rcases Nat.eq_or_lt_of_le h1 with h1 | h1
  · rw [← h1]; exact bi_in9 bi_cwj165 rfl
  rcases Nat.eq_or_lt_of_le h1 with h1 | h1
  · rw [← h1]; exact bi_in9 bi_cwj166 rfl
  rcases Nat.eq_or_lt_of_le h1 with h1 | h1
  · rw [← h1]; exact bi_in9 bi_cwj167 rfl
  rcases Nat.eq_or_lt_of_le h1 with h1 | h1
  · rw [← h1]; exact bi_in9 bi_cwj168 rfl
  rcases Nat.eq_or_lt_of_le h1 with h1 | h1
  · rw [← h1]; exact bi_in9 bi_cwj169 rfl
  rcases Nat.eq_or_lt_of_le h1 with h1 | h1
  · rw [← h1]; exact bi_in9 bi_cwj170 rfl
  rcases Nat.eq_or_lt_of_le h1 with h1 | h1
  · rw [← h1]; exact bi_in9 bi_cwj171 rfl
  rcases Nat.eq_or_lt_of_le h1 with h1 | h1
  · rw [← h1]; exact bi_in9 bi_cwj172 rfl
  rcases Nat.eq_or_lt_of_le h1 with h1 | h1
  · rw [← h1]; exact bi_in9 bi_cwj173 rfl
  rcases Nat.eq_or_lt_of_le h1 with h1 | h1
  · rw [← h1]; exact bi_in9 bi_cwj174 rfl
  omega
theorem bi_cwr175 : ∀ j, 175 ≤ j → j < 200 → bi_cw j ∈ bi_T9 := by
  intro j h1 h2
  rcases Nat.eq_or_lt_of_le h1 with h1 | h1
  · rw [← h1]; exact bi_in9 bi_cwj175 rfl
  rcases Nat.eq_or_lt_of_le h1 with h1 | h1
  · rw [← h1]; exact bi_in9 bi_cwj176 rfl
  rcases Nat.eq_or_lt_of_le h1 with h1 | h1
  · rw [← h1]; exact bi_in9 bi_cwj177 rfl
  rcases Nat.eq_or_lt_of_le h1 with h1 | h1
  · rw [← h1]; exact bi_in9 bi_cwj178 rfl
  rcases Nat.eq_or_lt_of_le h1 with h1 | h1
  · rw [← h1]; exact bi_in9 bi_cwj179 rfl
  rcases Nat.eq_or_lt_of_le h1 with h1 | h1
  · rw [← h1]; exact bi_in9 bi_cwj180 rfl
  rcases Nat.eq_or_lt_of_le h1 with h1 | h1
  · rw [← h1]; exact bi_in9 bi_cwj181 rfl
  rcases Nat.eq_or_lt_of_le h1 with h1 | h1
  · rw [← h1]; exact bi_in9 bi_cwj182 rfl
  rcases Nat.eq_or_lt_of_le h1 with h1 | h1
  · rw [← h1]; exact bi_in9 bi_cwj183 rfl
  rcases Nat.eq_or_lt_of_le h1 with h1 | h1
  · rw [← h1]; exact bi_in9 bi_cwj184 rfl
  rcases Nat.eq_or_lt_of_le h1 with h1 | h1
  · rw [← h1]; exact bi_in9 bi_cwj185 rfl
  rcases Nat.eq_or_lt_of_le h1 with h1 | h1
  · rw [← h1]; exact bi_in9 bi_cwj186 rfl
  rcases Nat.eq_or_lt_of_le h1 with h1 | h1
  · rw [← h1]; exact bi_in9 bi_cwj187 rfl
  rcases Nat.eq_or_lt_of_le h1 with h1 | h1
  · rw [← h1]; exact bi_in9 bi_cwj188 rfl
  rcases Nat.eq_or_lt_of_le h1 with h1 | h1
  · rw [← h1]; exact bi_in9 bi_cwj189 rfl
  rcases Nat.eq_or_lt_of_le h1 with h1 | h1
  · rw [← h1]; exact bi_in9 bi_cwj190 rfl
  rcases Nat.eq_or_lt_of_le h1 with h1 | h1
  · rw [← h1]; exact bi_in9 bi_cwj191 rfl
  rcases Nat.eq_or_lt_of_le h1 with h1 | h1
  · rw [← h1]; exact bi_in9 bi_cwj192 rfl
  rcases Nat.eq_or_lt_of_le h1 with h1 | h1
  · rw [← h1]; exact bi_in9 bi_cwj193 rfl
  rcases Nat.eq_or_lt_of_le h1 with h1 | h1
  · rw [← h1]; exact bi_in9 bi_cwj194 rfl
  rcases Nat.eq_or_lt_of_le h1 with h1 | h1
  · rw [← h1]; exact bi_in9 bi_cwj195 rfl
  rcases Nat.eq_or_lt_of_le h1 with h1 | h1
  · rw [← h1]; exact bi_in9 bi_cwj196 rfl
  rcases Nat.eq_or_lt_of_le h1 with h1 | h1
  · rw [← h1]; exact bi_in9 bi_cwj197 rfl
  rcases Nat.eq_or_lt_of_le h1 with h1 | h1
  · rw [← h1]; exact bi_in9 bi_cwj198 rfl
  rcases Nat.eq_or_lt_of_le h1 with h1 | h1
  · rw [← h1]; exact bi_in9 bi_cwj199 rfl
  omega
theorem bi_cwr200 : ∀ j, 200 ≤ j → j < 225 → bi_cw j ∈ bi_T9 := by
  intro j h1 h2
  rcases Nat.eq_or_lt_of_le h1 with h1 | h1
  · rw [← h1]; exact bi_in9 bi_cwj200 rfl
  rcases Nat.eq_or_lt_of_le h1 with h1 | h1
  · rw [← h1]; exact bi_in9 bi_cwj201 rfl
  rcases Nat.eq_or_lt_of_le h1 with h1 | h1
  · rw [← h1]; exact bi_in9 bi_cwj202 rfl
  rcases Nat.eq_or_lt_of_le h1 with h1 | h1
  · rw [← h1]; exact bi_in9 bi_cwj203 rfl
  rcases Nat.eq_or_lt_of_le h1 with h1 | h1
  · rw [← h1]; exact bi_in9 bi_cwj204 rfl
  rcases Nat.eq_or_lt_of_le h1 with h1 | h1
  · rw [← h1]; exact bi_in9 bi_cwj205 rfl
  rcases Nat.eq_or_lt_of_le h1 with h1 | h1
  · rw [← h1]; exact bi_in9 bi_cwj206 rfl
  rcases Nat.eq_or_lt_of_le h1 with h1 | h1
  · rw [← h1]; exact bi_in9 bi_cwj207 rfl
  rcases Nat.eq_or_lt_of_le h1 with h1 | h1
  · rw [← h1]; exact bi_in9 bi_cwj208 rfl
  rcases Nat.eq_or_lt_of_le h1 with h1 | h1
  · rw [← h1]; exact bi_in9 bi_cwj209 rfl
  rcases Nat.eq_or_lt_of_le h1 with h1 | h1
  · rw [← h1]; exact bi_in9 bi_cwj210 rfl
  rcases Nat.eq_or_lt_of_le h1 with h1 | h1
  · rw [← h1]; exact bi_in9 bi_cwj211 rfl
  rcases Nat.eq_or_lt_of_le h1 with h1 | h1
  · rw [← h1]; exact bi_in9 bi_cwj212 rfl
  rcases Nat.eq_or_lt_of_le h1 with h1 | h1
  · rw [← h1]; exact bi_in9 bi_cwj213 rfl
  rcases Nat.eq_or_lt_of_le h1 with h1 | h1
  · rw [← h1]; exact bi_in9 bi_cwj214 rfl
  rcases Nat.eq_or_lt_of_le h1 with h1 | h1
  · rw [← h1]; exact bi_in9 bi_cwj215 rfl
  rcases Nat.eq_or_lt_of_le h1 with h1 | h1
  · rw [← h1]; exact bi_in9 bi_cwj216 rfl
  rcases Nat.eq_or_lt_of_le h1 with h1 | h1
  · rw [← h1]; exact bi_in9 bi_cwj217 rfl
  rcases Nat.eq_or_lt_of_le h1 with h1 | h1
  · rw [← h1]; exact bi_in9 bi_cwj218 rfl
  rcases Nat.eq_or_lt_of_le h1 with h1 | h1
  · rw [← h1]; exact bi_in9 bi_cwj219 rfl
  rcases Nat.eq_or_lt_of_le h1 with h1 | h1
  · rw [← h1]; exact bi_in9 bi_cwj220 rfl
  rcases Nat.eq_or_lt_of_le h1 with h1 | h1
  · rw [← h1]; exact bi_in9 bi_cwj221 rfl
  rcases Nat.eq_or_lt_of_le h1 with h1 | h1
  · rw [← h1]; exact bi_in9 bi_cwj222 rfl
  rcases Nat.eq_or_lt_of_le h1 with h1 | h1
  · rw [← h1]; exact bi_in9 bi_cwj223 rfl
  rcases Nat.eq_or_lt_of_le h1 with h1 | h1
  · rw [← h1]; exact bi_in9 bi_cwj224 rfl
  omega
theorem bi_cwr225 : ∀ j, 225 ≤ j → j < 250 → bi_cw j ∈ bi_T9 := by
  intro j h1 h2
  rcases Nat.eq_or_lt_of_le h1 with h1 | h1
  · rw [← h1]; exact bi_in9 bi_cwj225 rfl
  rcases Nat.eq_or_lt_of_le h1 with h1 | h1
  · rw [← h1]; exact bi_in9 bi_cwj226 rfl
  rcases Nat.eq_or_lt_of_le h1 with h1 | h1
  · rw [← h1]; exact bi_in9 bi_cwj227 rfl
  rcases Nat.eq_or_lt_of_le h1 with h1 | h1
  · rw [← h1]; exact bi_in9 bi_cwj228 rfl
  rcases Nat.eq_or_lt_of_le h1 with h1 | h1
  · rw [← h1]; exact bi_in9 bi_cwj229 rfl
  rcases Nat.eq_or_lt_of_le h1 with h1 | h1
  · rw [← h1]; exact bi_in9 bi_cwj230 rfl
  rcases Nat.eq_or_lt_of_le h1 with h1 | h1
  · rw [← h1]; exact bi_in9 bi_cwj231 rfl
  rcases Nat.eq_or_lt_of_le h1 with h1 | h1
  · rw [← h1]; exact bi_in9 bi_cwj232 rfl
  rcases Nat.eq_or_lt_of_le h1 with h1 | h1
  · rw [← h1]; exact bi_in9 bi_cwj233 rfl
  rcases Nat.eq_or_lt_of_le h1 with h1 | h1
  · rw [← h1]; exact bi_in9 bi_cwj234 rfl
  rcases Nat.eq_or_lt_of_le h1 with h1 | h1
  · rw [← h1]; exact bi_in9 bi_cwj235 rfl
  rcases Nat.eq_or_lt_of_le h1 with h1 | h1
  · rw [← h1]; exact bi_in9 bi_cwj236 rfl
  rcases Nat.eq_or_lt_of_le h1 with h1 | h1
  · rw [← h1]; exact bi_in9 bi_cwj237 rfl
  rcases Nat.eq_or_lt_of_le h1 with h1 | h1
  · rw [← h1]; exact bi_in9 bi_cwj238 rfl
  rcases Nat.eq_or_lt_of_le h1 with h1 | h1
  · rw [← h1]; exact bi_in9 bi_cwj239 rfl
  rcases Nat.eq_or_lt_of_le h1 with h1 | h1
  · rw [← h1]; exact bi_in9 bi_cwj240 rfl
  rcases Nat.eq_or_lt_of_le h1 with h1 | h1
  · rw [← h1]; exact bi_in9 bi_cwj241 rfl
  rcases Nat.eq_or_lt_of_le h1 with h1 | h1
  · rw [← h1]; exact bi_in9 bi_cwj242 rfl
  rcases Nat.eq_or_lt_of_le h1 with h1 | h1
  · rw [← h1]; exact bi_in9 bi_cwj243 rfl
  rcases Nat.eq_or_lt_of_le h1 with h1 | h1
  · rw [← h1]; exact bi_in9 bi_cwj244 rfl
  rcases Nat.eq_or_lt_of_le h1 with h1 | h1
  · rw [← h1]; exact bi_in9 bi_cwj245 rfl
  rcases Nat.eq_or_lt_of_le h1 with h1 | h1
  · rw [← h1]; exact bi_in9 bi_cwj246 rfl
  rcases Nat.eq_or_lt_of_le h1 with h1 | h1
  · rw [← h1]; exact bi_in9 bi_cwj247 rfl
  rcases Nat.eq_or_lt_of_le h1 with h1 | h1
  · rw [← h1]; exact bi_in9 bi_cwj248 rfl
  rcases Nat.eq_or_lt_of_le h1 with h1 | h1
  · rw [← h1]; exact bi_in9 bi_cwj249 rfl
  omega
theorem bi_cwr250 : ∀ j, 250 ≤ j → j < 275 → bi_cw j ∈ bi_T9 := by
  intro j h1 h2
  rcases Nat.eq_or_lt_of_le h1 with h1 | h1
  · rw [← h1]; exact bi_in9 bi_cwj250 rfl
  rcases Nat.eq_or_lt_of_le h1 with h1 | h1
  · rw [← h1]; exact bi_in9 bi_cwj251 rfl
  rcases Nat.eq_or_lt_of_le h1 with h1 | h1
  · rw [← h1]; exact bi_in9 bi_cwj252 rfl
  rcases Nat.eq_or_lt_of_le h1 with h1 | h1
  · rw [← h1]; exact bi_in9 bi_cwj253 rfl
  rcases Nat.eq_or_lt_of_le h1 with h1 | h1
  · rw [← h1]; exact bi_in9 bi_cwj254 rfl
  rcases Nat.eq_or_lt_of_le h1 with h1 | h1
  · rw [← h1]; exact bi_in9 bi_cwj255 rfl
  rcases Nat.eq_or_lt_of_le h1 with h1 | h1
  · rw [← h1]; exact bi_in9 bi_cwj256 rfl
  rcases Nat.eq_or_lt_of_le h1 with h1 | h1
  · rw [← h1]; exact bi_in9 bi_cwj257 rfl
  rcases Nat.eq_or_lt_of_le h1 with h1 | h1
  · rw [← h1]; exact bi_in9 bi_cwj258 rfl
  rcases Nat.eq_or_lt_of_le h1 with h1 | h1
  · rw [← h1]; exact bi_in9 bi_cwj259 rfl
  rcases Nat.eq_or_lt_of_le h1 with h1 | h1
  · rw [← h1]; exact bi_in9 bi_cwj260 rfl
  rcases Nat.eq_or_lt_of_le h1 with h1 | h1
  · rw [← h1]; exact bi_in9 bi_cwj261 rfl
  rcases Nat.eq_or_lt_of_le h1 with h1 | h1
  · rw [← h1]; exact bi_in9 bi_cwj262 rfl
  rcases Nat.eq_or_lt_of_le h1 with h1 | h1
  · rw [← h1]; exact bi_in9 bi_cwj263 rfl
  rcases Nat.eq_or_lt_of_le h1 with h1 | h1
  · rw [← h1]; exact bi_in9 bi_cwj264 rfl
  rcases Nat.eq_or_lt_of_le h1 with h1 | h1
  · rw [← h1]; exact bi_in9 bi_cwj265 rfl
  rcases Nat.eq_or_lt_of_le h1 with h1 | h1
  · rw [← h1]; exact bi_in9 bi_cwj266 rfl
  rcases Nat.eq_or_lt_of_le h1 with h1 | h1
  · rw [← h1]; exact bi_in9 bi_cwj267 rfl
  rcases Nat.eq_or_lt_of_le h1 with h1 | h1
  · rw [← h1]; exact bi_in9 bi_cwj268 rfl
  rcases Nat.eq_or_lt_of_le h1 with h1 | h1
  · rw [← h1]; exact bi_in9 bi_cwj269 rfl
  rcases Nat.eq_or_lt_of_le h1 with h1 | h1
  · rw [← h1]; exact bi_in9 bi_cwj270 rfl
  rcases Nat.eq_or_lt_of_le h1 with h1 | h1
  · rw [← h1]; exact bi_in9 bi_cwj271 rfl
  rcases Nat.eq_or_lt_of_le h1 with h1 | h1
  · rw [← h1]; exact bi_in9 bi_cwj272 rfl
  rcases Nat.eq_or_lt_of_le h1 with h1 | h1
  · rw [← h1]; exact bi_in9 bi_cwj273 rfl
  rcases Nat.eq_or_lt_of_le h1 with h1 | h1
  · rw [← h1]; exact bi_in9 bi_cwj274 rfl
  omega
theorem bi_cwr275 : ∀ j, 275 ≤ j → j < 294 → bi_cw j ∈ bi_T9 := by
  intro j h1 h2
  rcases Nat.eq_or_lt_of_le h1 with h1 | h1
  · rw [← h1]; exact bi_in9 bi_cwj275 rfl
  rcases Nat.eq_or_lt_of_le h1 with h1 | h1
  · rw [← h1]; exact bi_in9 bi_cwj276 rfl
  rcases Nat.eq_or_lt_of_le h1 with h1 | h1
  · rw [← h1]; exact bi_in9 bi_cwj277 rfl
  rcases Nat.eq_or_lt_of_le h1 with h1 | h1
  · rw [← h1]; exact bi_in9 bi_cwj278 rfl
  rcases Nat.eq_or_lt_of_le h1 with h1 | h1
  · rw [← h1]; exact bi_in9 bi_cwj279 rfl
  rcases Nat.eq_or_lt_of_le h1 with h1 | h1
  · rw [← h1]; exact bi_in9 bi_cwj280 rfl
  rcases Nat.eq_or_lt_of_le h1 with h1 | h1
  · rw [← h1]; exact bi_in9 bi_cwj281 rfl
  rcases Nat.eq_or_lt_of_le h1 with h1 | h1
  · rw [← h1]; exact bi_in9 bi_cwj282 rfl
  rcases Nat.eq_or_lt_of_le h1 with h1 | h1
  · rw [← h1]; exact bi_in9 bi_cwj283 rfl
  rcases Nat.eq_or_lt_of_le h1 with h1 | h1
  · rw [← h1]; exact bi_in9 bi_cwj284 rfl
  rcases Nat.eq_or_lt_of_le h1 with h1 | h1
  · rw [← h1]; exact bi_in9 bi_cwj285 rfl
  rcases Nat.eq_or_lt_of_le h1 with h1 | h1
  · rw [← h1]; exact bi_in9 bi_cwj286 rfl
  rcases Nat.eq_or_lt_of_le h1 with h1 | h1
  · rw [← h1]; exact bi_in9 bi_cwj287 rfl
  rcases Nat.eq_or_lt_of_le h1 with h1 | h1
  · rw [← h1]; exact bi_in9 bi_cwj288 rfl
  rcases Nat.eq_or_lt_of_le h1 with h1 | h1
  · rw [← h1]; exact bi_in9 bi_cwj289 rfl
  rcases Nat.eq_or_lt_of_le h1 with h1 | h1
  · rw [← h1]; exact bi_in9 bi_cwj290 rfl
  rcases Nat.eq_or_lt_of_le h1 with h1 | h1
  · rw [← h1]; exact bi_in9 bi_cwj291 rfl
  rcases Nat.eq_or_lt_of_le h1 with h1 | h1
  · rw [← h1]; exact bi_in9 bi_cwj292 rfl
  rcases Nat.eq_or_lt_of_le h1 with h1 | h1
  · rw [← h1]; exact bi_in9 bi_cwj293 rfl
  omega
theorem bi_cwm {j : Nat} (h : j < 294) : bi_cw j ∈ bi_T9 := by
  rcases Nat.lt_or_ge j 25 with h0 | h0
  · exact bi_cwr0 j (by omega) h0
  rcases Nat.lt_or_ge j 50 with h25 | h25
  · exact bi_cwr25 j (by omega) h25
  rcases Nat.lt_or_ge j 75 with h50 | h50
  · exact bi_cwr50 j (by omega) h50
  rcases Nat.lt_or_ge j 100 with h75 | h75
  · exact bi_cwr75 j (by omega) h75
  rcases Nat.lt_or_ge j 125 with h100 | h100
  · exact bi_cwr100 j (by omega) h100
  rcases Nat.lt_or_ge j 150 with h125 | h125
  · exact bi_cwr125 j (by omega) h125
  rcases Nat.lt_or_ge j 175 with h150 | h150
  · exact bi_cwr150 j (by omega) h150
  rcases Nat.lt_or_ge j 200 with h175 | h175
  · exact bi_cwr175 j (by omega) h175
  rcases Nat.lt_or_ge j 225 with h200 | h200
  · exact bi_cwr200 j (by omega) h200
  rcases Nat.lt_or_ge j 250 with h225 | h225
  · exact bi_cwr225 j (by omega) h225
  rcases Nat.lt_or_ge j 275 with h250 | h250
  · exact bi_cwr250 j (by omega) h250
  rcases Nat.lt_or_ge j 294 with h275 | h275
  · exact bi_cwr275 j (by omega) h275
  omega
