theorem bi_dp294 : bi_dP 294 := bi_dgen (f := bi_c294) (cc := cL_law) (n := 2000) rfl rfl rfl (fun pc h => by
  rcases Nat.lt_or_ge pc 100 with h0 | h0
  · exact bi_drg bi_dk294_0 pc (by omega) (by omega)
  rcases Nat.lt_or_ge pc 200 with h100 | h100
  · exact bi_drg bi_dk294_100 pc (by omega) (by omega)
  rcases Nat.lt_or_ge pc 300 with h200 | h200
  · exact bi_drg bi_dk294_200 pc (by omega) (by omega)
  rcases Nat.lt_or_ge pc 400 with h300 | h300
  · exact bi_drg bi_dk294_300 pc (by omega) (by omega)
  rcases Nat.lt_or_ge pc 500 with h400 | h400
  · exact bi_drg bi_dk294_400 pc (by omega) (by omega)
  rcases Nat.lt_or_ge pc 600 with h500 | h500
  · exact bi_drg bi_dk294_500 pc (by omega) (by omega)
  rcases Nat.lt_or_ge pc 700 with h600 | h600
  · exact bi_drg bi_dk294_600 pc (by omega) (by omega)
  rcases Nat.lt_or_ge pc 800 with h700 | h700
  · exact bi_drg bi_dk294_700 pc (by omega) (by omega)
  rcases Nat.lt_or_ge pc 900 with h800 | h800
  · exact bi_drg bi_dk294_800 pc (by omega) (by omega)
  rcases Nat.lt_or_ge pc 1000 with h900 | h900
  · exact bi_drg bi_dk294_900 pc (by omega) (by omega)
  rcases Nat.lt_or_ge pc 1100 with h1000 | h1000
  · exact bi_drg bi_dk294_1000 pc (by omega) (by omega)
  rcases Nat.lt_or_ge pc 1200 with h1100 | h1100
  · exact bi_drg bi_dk294_1100 pc (by omega) (by omega)
  rcases Nat.lt_or_ge pc 1300 with h1200 | h1200
  · exact bi_drg bi_dk294_1200 pc (by omega) (by omega)
  rcases Nat.lt_or_ge pc 1400 with h1300 | h1300
  · exact bi_drg bi_dk294_1300 pc (by omega) (by omega)
  rcases Nat.lt_or_ge pc 1500 with h1400 | h1400
  · exact bi_drg bi_dk294_1400 pc (by omega) (by omega)
  rcases Nat.lt_or_ge pc 1600 with h1500 | h1500
  · exact bi_drg bi_dk294_1500 pc (by omega) (by omega)
  rcases Nat.lt_or_ge pc 1700 with h1600 | h1600
  · exact bi_drg bi_dk294_1600 pc (by omega) (by omega)
  rcases Nat.lt_or_ge pc 1800 with h1700 | h1700
  · exact bi_drg bi_dk294_1700 pc (by omega) (by omega)
  rcases Nat.lt_or_ge pc 1900 with h1800 | h1800
  · exact bi_drg bi_dk294_1800 pc (by omega) (by omega)
  rcases Nat.lt_or_ge pc 2000 with h1900 | h1900
  · exact bi_drg bi_dk294_1900 pc (by omega) (by omega)
  omega)
theorem bi_dr0 : ∀ j, 0 ≤ j → j < 25 → bi_dP j := by
  intro j h1 h2
  rcases Nat.eq_or_lt_of_le h1 with h1 | h1
  · rw [← h1]; exact bi_dp0
  rcases Nat.eq_or_lt_of_le h1 with h1 | h1
  · rw [← h1]; exact bi_dp1
  rcases Nat.eq_or_lt_of_le h1 with h1 | h1
  · rw [← h1]; exact bi_dp2
  rcases Nat.eq_or_lt_of_le h1 with h1 | h1
  · rw [← h1]; exact bi_dp3
  rcases Nat.eq_or_lt_of_le h1 with h1 | h1
  · rw [← h1]; exact bi_dp4
  rcases Nat.eq_or_lt_of_le h1 with h1 | h1
  · rw [← h1]; exact bi_dp5
  rcases Nat.eq_or_lt_of_le h1 with h1 | h1
  · rw [← h1]; exact bi_dp6
  rcases Nat.eq_or_lt_of_le h1 with h1 | h1
  · rw [← h1]; exact bi_dp7
  rcases Nat.eq_or_lt_of_le h1 with h1 | h1
  · rw [← h1]; exact bi_dp8
  rcases Nat.eq_or_lt_of_le h1 with h1 | h1
  · rw [← h1]; exact bi_dp9
  rcases Nat.eq_or_lt_of_le h1 with h1 | h1
  · rw [← h1]; exact bi_dp10
  rcases Nat.eq_or_lt_of_le h1 with h1 | h1
  · rw [← h1]; exact bi_dp11
  rcases Nat.eq_or_lt_of_le h1 with h1 | h1
  · rw [← h1]; exact bi_dp12
  rcases Nat.eq_or_lt_of_le h1 with h1 | h1
  · rw [← h1]; exact bi_dp13
  rcases Nat.eq_or_lt_of_le h1 with h1 | h1
  · rw [← h1]; exact bi_dp14
  rcases Nat.eq_or_lt_of_le h1 with h1 | h1
  · rw [← h1]; exact bi_dp15
  rcases Nat.eq_or_lt_of_le h1 with h1 | h1
  · rw [← h1]; exact bi_dp16
  rcases Nat.eq_or_lt_of_le h1 with h1 | h1
  · rw [← h1]; exact bi_dp17
  rcases Nat.eq_or_lt_of_le h1 with h1 | h1
  · rw [← h1]; exact bi_dp18
  rcases Nat.eq_or_lt_of_le h1 with h1 | h1
  · rw [← h1]; exact bi_dp19
  rcases Nat.eq_or_lt_of_le h1 with h1 | h1
  · rw [← h1]; exact bi_dp20
  rcases Nat.eq_or_lt_of_le h1 with h1 | h1
  · rw [← h1]; exact bi_dp21
  rcases Nat.eq_or_lt_of_le h1 with h1 | h1
  · rw [← h1]; exact bi_dp22
  rcases Nat.eq_or_lt_of_le h1 with h1 | h1
  · rw [← h1]; exact bi_dp23
  rcases Nat.eq_or_lt_of_le h1 with h1 | h1
  · rw [← h1]; exact bi_dp24
  omega
theorem bi_dr25 : ∀ j, 25 ≤ j → j < 50 → bi_dP j := by
  intro j h1 h2
  rcases Nat.eq_or_lt_of_le h1 with h1 | h1
  · rw [← h1]; exact bi_dp25
  rcases Nat.eq_or_lt_of_le h1 with h1 | h1
  · rw [← h1]; exact bi_dp26
  rcases Nat.eq_or_lt_of_le h1 with h1 | h1
  · rw [← h1]; exact bi_dp27
  rcases Nat.eq_or_lt_of_le h1 with h1 | h1
  · rw [← h1]; exact bi_dp28
  rcases Nat.eq_or_lt_of_le h1 with h1 | h1
  · rw [← h1]; exact bi_dp29
  rcases Nat.eq_or_lt_of_le h1 with h1 | h1
  · rw [← h1]; exact bi_dp30
  rcases Nat.eq_or_lt_of_le h1 with h1 | h1
  · rw [← h1]; exact bi_dp31
  rcases Nat.eq_or_lt_of_le h1 with h1 | h1
  · rw [← h1]; exact bi_dp32
  rcases Nat.eq_or_lt_of_le h1 with h1 | h1
  · rw [← h1]; exact bi_dp33
  rcases Nat.eq_or_lt_of_le h1 with h1 | h1
  · rw [← h1]; exact bi_dp34
  rcases Nat.eq_or_lt_of_le h1 with h1 | h1
  · rw [← h1]; exact bi_dp35
  rcases Nat.eq_or_lt_of_le h1 with h1 | h1
  · rw [← h1]; exact bi_dp36
  rcases Nat.eq_or_lt_of_le h1 with h1 | h1
  · rw [← h1]; exact bi_dp37
  rcases Nat.eq_or_lt_of_le h1 with h1 | h1
  · rw [← h1]; exact bi_dp38
  rcases Nat.eq_or_lt_of_le h1 with h1 | h1
  · rw [← h1]; exact bi_dp39
  rcases Nat.eq_or_lt_of_le h1 with h1 | h1
  · rw [← h1]; exact bi_dp40
  rcases Nat.eq_or_lt_of_le h1 with h1 | h1
  · rw [← h1]; exact bi_dp41
  rcases Nat.eq_or_lt_of_le h1 with h1 | h1
  · rw [← h1]; exact bi_dp42
  rcases Nat.eq_or_lt_of_le h1 with h1 | h1
  · rw [← h1]; exact bi_dp43
  rcases Nat.eq_or_lt_of_le h1 with h1 | h1
  · rw [← h1]; exact bi_dp44
  rcases Nat.eq_or_lt_of_le h1 with h1 | h1
  · rw [← h1]; exact bi_dp45
  rcases Nat.eq_or_lt_of_le h1 with h1 | h1
  · rw [← h1]; exact bi_dp46
  rcases Nat.eq_or_lt_of_le h1 with h1 | h1
  · rw [← h1]; exact bi_dp47
  rcases Nat.eq_or_lt_of_le h1 with h1 | h1
  · rw [← h1]; exact bi_dp48
  rcases Nat.eq_or_lt_of_le h1 with h1 | h1
  · rw [← h1]; exact bi_dp49
  omega
theorem bi_dr50 : ∀ j, 50 ≤ j → j < 75 → bi_dP j := by
  intro j h1 h2
  rcases Nat.eq_or_lt_of_le h1 with h1 | h1
  · rw [← h1]; exact bi_dp50
  rcases Nat.eq_or_lt_of_le h1 with h1 | h1
  · rw [← h1]; exact bi_dp51
  rcases Nat.eq_or_lt_of_le h1 with h1 | h1
  · rw [← h1]; exact bi_dp52
  rcases Nat.eq_or_lt_of_le h1 with h1 | h1
  · rw [← h1]; exact bi_dp53
  rcases Nat.eq_or_lt_of_le h1 with h1 | h1
  · rw [← h1]; exact bi_dp54
  rcases Nat.eq_or_lt_of_le h1 with h1 | h1
  · rw [← h1]; exact bi_dp55
  rcases Nat.eq_or_lt_of_le h1 with h1 | h1
  · rw [← h1]; exact bi_dp56
  rcases Nat.eq_or_lt_of_le h1 with h1 | h1
  · rw [← h1]; exact bi_dp57
  rcases Nat.eq_or_lt_of_le h1 with h1 | h1
  · rw [← h1]; exact bi_dp58
  rcases Nat.eq_or_lt_of_le h1 with h1 | h1
  · rw [← h1]; exact bi_dp59
  rcases Nat.eq_or_lt_of_le h1 with h1 | h1
  · rw [← h1]; exact bi_dp60
  rcases Nat.eq_or_lt_of_le h1 with h1 | h1
  · rw [← h1]; exact bi_dp61
  rcases Nat.eq_or_lt_of_le h1 with h1 | h1
  · rw [← h1]; exact bi_dp62
  rcases Nat.eq_or_lt_of_le h1 with h1 | h1
  · rw [← h1]; exact bi_dp63
  rcases Nat.eq_or_lt_of_le h1 with h1 | h1
  · rw [← h1]; exact bi_dp64
  rcases Nat.eq_or_lt_of_le h1 with h1 | h1
  · rw [← h1]; exact bi_dp65
  rcases Nat.eq_or_lt_of_le h1 with h1 | h1
  · rw [← h1]; exact bi_dp66
  rcases Nat.eq_or_lt_of_le h1 with h1 | h1
  · rw [← h1]; exact bi_dp67
  rcases Nat.eq_or_lt_of_le h1 with h1 | h1
  · rw [← h1]; exact bi_dp68
  rcases Nat.eq_or_lt_of_le h1 with h1 | h1
  · rw [← h1]; exact bi_dp69
  rcases Nat.eq_or_lt_of_le h1 with h1 | h1
  · rw [← h1]; exact bi_dp70
  rcases Nat.eq_or_lt_of_le h1 with h1 | h1
  · rw [← h1]; exact bi_dp71
  rcases Nat.eq_or_lt_of_le h1 with h1 | h1
  · rw [← h1]; exact bi_dp72
  rcases Nat.eq_or_lt_of_le h1 with h1 | h1
  · rw [← h1]; exact bi_dp73
  rcases Nat.eq_or_lt_of_le h1 with h1 | h1
  · rw [← h1]; exact bi_dp74
  omega
theorem bi_dr75 : ∀ j, 75 ≤ j → j < 100 → bi_dP j := by
  intro j h1 h2
  rcases Nat.eq_or_lt_of_le h1 with h1 | h1
  · rw [← h1]; exact bi_dp75
  rcases Nat.eq_or_lt_of_le h1 with h1 | h1
  · rw [← h1]; exact bi_dp76
  rcases Nat.eq_or_lt_of_le h1 with h1 | h1
  · rw [← h1]; exact bi_dp77
  rcases Nat.eq_or_lt_of_le h1 with h1 | h1
  · rw [← h1]; exact bi_dp78
  rcases Nat.eq_or_lt_of_le h1 with h1 | h1
  · rw [← h1]; exact bi_dp79
  rcases Nat.eq_or_lt_of_le h1 with h1 | h1
  · rw [← h1]; exact bi_dp80
  rcases Nat.eq_or_lt_of_le h1 with h1 | h1
  · rw [← h1]; exact bi_dp81
  rcases Nat.eq_or_lt_of_le h1 with h1 | h1
  · rw [← h1]; exact bi_dp82
  rcases Nat.eq_or_lt_of_le h1 with h1 | h1
  · rw [← h1]; exact bi_dp83
  rcases Nat.eq_or_lt_of_le h1 with h1 | h1
  · rw [← h1]; exact bi_dp84
  rcases Nat.eq_or_lt_of_le h1 with h1 | h1
  · rw [← h1]; exact bi_dp85
  rcases Nat.eq_or_lt_of_le h1 with h1 | h1
  · rw [← h1]; exact bi_dp86
  rcases Nat.eq_or_lt_of_le h1 with h1 | h1
  · rw [← h1]; exact bi_dp87
  rcases Nat.eq_or_lt_of_le h1 with h1 | h1
  · rw [← h1]; exact bi_dp88
  rcases Nat.eq_or_lt_of_le h1 with h1 | h1
  · rw [← h1]; exact bi_dp89
  rcases Nat.eq_or_lt_of_le h1 with h1 | h1
  · rw [← h1]; exact bi_dp90
  rcases Nat.eq_or_lt_of_le h1 with h1 | h1
  · rw [← h1]; exact bi_dp91
  rcases Nat.eq_or_lt_of_le h1 with h1 | h1
  · rw [← h1]; exact bi_dp92
  rcases Nat.eq_or_lt_of_le h1 with h1 | h1
  · rw [← h1]; exact bi_dp93
  rcases Nat.eq_or_lt_of_le h1 with h1 | h1
  · rw [← h1]; exact bi_dp94
  rcases Nat.eq_or_lt_of_le h1 with h1 | h1
  · rw [← h1]; exact bi_dp95
  rcases Nat.eq_or_lt_of_le h1 with h1 | h1
  · rw [← h1]; exact bi_dp96
  rcases Nat.eq_or_lt_of_le h1 with h1 | h1
  · rw [← h1]; exact bi_dp97
  rcases Nat.eq_or_lt_of_le h1 with h1 | h1
  · rw [← h1]; exact bi_dp98
  rcases Nat.eq_or_lt_of_le h1 with h1 | h1
  · rw [← h1]; exact bi_dp99
  omega
theorem bi_dr100 : ∀ j, 100 ≤ j → j < 125 → bi_dP j := by
  intro j h1 h2
  rcases Nat.eq_or_lt_of_le h1 with h1 | h1
  · rw [← h1]; exact bi_dp100
  rcases Nat.eq_or_lt_of_le h1 with h1 | h1
  · rw [← h1]; exact bi_dp101
  rcases Nat.eq_or_lt_of_le h1 with h1 | h1
  · rw [← h1]; exact bi_dp102
  rcases Nat.eq_or_lt_of_le h1 with h1 | h1
  · rw [← h1]; exact bi_dp103
  rcases Nat.eq_or_lt_of_le h1 with h1 | h1
  · rw [← h1]; exact bi_dp104
  rcases Nat.eq_or_lt_of_le h1 with h1 | h1
  · rw [← h1]; exact bi_dp105
  rcases Nat.eq_or_lt_of_le h1 with h1 | h1
  · rw [← h1]; exact bi_dp106
  rcases Nat.eq_or_lt_of_le h1 with h1 | h1
  · rw [← h1]; exact bi_dp107
  rcases Nat.eq_or_lt_of_le h1 with h1 | h1
  · rw [← h1]; exact bi_dp108
  rcases Nat.eq_or_lt_of_le h1 with h1 | h1
  · rw [← h1]; exact bi_dp109
  rcases Nat.eq_or_lt_of_le h1 with h1 | h1
  · rw [← h1]; exact bi_dp110
  rcases Nat.eq_or_lt_of_le h1 with h1 | h1
  · rw [← h1]; exact bi_dp111
  rcases Nat.eq_or_lt_of_le h1 with h1 | h1
  · rw [← h1]; exact bi_dp112
  rcases Nat.eq_or_lt_of_le h1 with h1 | h1
  · rw [← h1]; exact bi_dp113
  rcases Nat.eq_or_lt_of_le h1 with h1 | h1
  · rw [← h1]; exact bi_dp114
  rcases Nat.eq_or_lt_of_le h1 with h1 | h1
  · rw [← h1]; exact bi_dp115
  rcases Nat.eq_or_lt_of_le h1 with h1 | h1
  · rw [← h1]; exact bi_dp116
  rcases Nat.eq_or_lt_of_le h1 with h1 | h1
  · rw [← h1]; exact bi_dp117
  rcases Nat.eq_or_lt_of_le h1 with h1 | h1
  · rw [← h1]; exact bi_dp118
  rcases Nat.eq_or_lt_of_le h1 with h1 | h1
  · rw [← h1]; exact bi_dp119
  rcases Nat.eq_or_lt_of_le h1 with h1 | h1
  · rw [← h1]; exact bi_dp120
  rcases Nat.eq_or_lt_of_le h1 with h1 | h1
  · rw [← h1]; exact bi_dp121
  rcases Nat.eq_or_lt_of_le h1 with h1 | h1
  · rw [← h1]; exact bi_dp122
  rcases Nat.eq_or_lt_of_le h1 with h1 | h1
  · rw [← h1]; exact bi_dp123
  rcases Nat.eq_or_lt_of_le h1 with h1 | h1
  · rw [← h1]; exact bi_dp124
  omega
theorem bi_dr125 : ∀ j, 125 ≤ j → j < 150 → bi_dP j := by
  intro j h1 h2
  rcases Nat.eq_or_lt_of_le h1 with h1 | h1
  · rw [← h1]; exact bi_dp125
  rcases Nat.eq_or_lt_of_le h1 with h1 | h1
  · rw [← h1]; exact bi_dp126
  rcases Nat.eq_or_lt_of_le h1 with h1 | h1
  · rw [← h1]; exact bi_dp127
  rcases Nat.eq_or_lt_of_le h1 with h1 | h1
  · rw [← h1]; exact bi_dp128
  rcases Nat.eq_or_lt_of_le h1 with h1 | h1
  · rw [← h1]; exact bi_dp129
  rcases Nat.eq_or_lt_of_le h1 with h1 | h1
  · rw [← h1]; exact bi_dp130
  rcases Nat.eq_or_lt_of_le h1 with h1 | h1
  · rw [← h1]; exact bi_dp131
  rcases Nat.eq_or_lt_of_le h1 with h1 | h1
  · rw [← h1]; exact bi_dp132
  rcases Nat.eq_or_lt_of_le h1 with h1 | h1
  · rw [← h1]; exact bi_dp133
  rcases Nat.eq_or_lt_of_le h1 with h1 | h1
  · rw [← h1]; exact bi_dp134
  rcases Nat.eq_or_lt_of_le h1 with h1 | h1
  · rw [← h1]; exact bi_dp135
  rcases Nat.eq_or_lt_of_le h1 with h1 | h1
  · rw [← h1]; exact bi_dp136
  rcases Nat.eq_or_lt_of_le h1 with h1 | h1
  · rw [← h1]; exact bi_dp137
  rcases Nat.eq_or_lt_of_le h1 with h1 | h1
  · rw [← h1]; exact bi_dp138
  rcases Nat.eq_or_lt_of_le h1 with h1 | h1
  · rw [← h1]; exact bi_dp139
  rcases Nat.eq_or_lt_of_le h1 with h1 | h1
  · rw [← h1]; exact bi_dp140
  rcases Nat.eq_or_lt_of_le h1 with h1 | h1
  · rw [← h1]; exact bi_dp141
  rcases Nat.eq_or_lt_of_le h1 with h1 | h1
  · rw [← h1]; exact bi_dp142
  rcases Nat.eq_or_lt_of_le h1 with h1 | h1
  · rw [← h1]; exact bi_dp143
  rcases Nat.eq_or_lt_of_le h1 with h1 | h1
  · rw [← h1]; exact bi_dp144
  rcases Nat.eq_or_lt_of_le h1 with h1 | h1
  · rw [← h1]; exact bi_dp145
  rcases Nat.eq_or_lt_of_le h1 with h1 | h1
  · rw [← h1]; exact bi_dp146
  rcases Nat.eq_or_lt_of_le h1 with h1 | h1
  · rw [← h1]; exact bi_dp147
  rcases Nat.eq_or_lt_of_le h1 with h1 | h1
  · rw [← h1]; exact bi_dp148
  rcases Nat.eq_or_lt_of_le h1 with h1 | h1
  · rw [← h1]; exact bi_dp149
  omega
theorem bi_dr150 : ∀ j, 150 ≤ j → j < 175 → bi_dP j := by
  intro j h1 h2
  rcases Nat.eq_or_lt_of_le h1 with h1 | h1
  · rw [← h1]; exact bi_dp150
  rcases Nat.eq_or_lt_of_le h1 with h1 | h1
  · rw [← h1]; exact bi_dp151
  rcases Nat.eq_or_lt_of_le h1 with h1 | h1
  · rw [← h1]; exact bi_dp152
  rcases Nat.eq_or_lt_of_le h1 with h1 | h1
  · rw [← h1]; exact bi_dp153
  rcases Nat.eq_or_lt_of_le h1 with h1 | h1
  · rw [← h1]; exact bi_dp154
  rcases Nat.eq_or_lt_of_le h1 with h1 | h1
  · rw [← h1]; exact bi_dp155
  rcases Nat.eq_or_lt_of_le h1 with h1 | h1
  · rw [← h1]; exact bi_dp156
  rcases Nat.eq_or_lt_of_le h1 with h1 | h1
  · rw [← h1]; exact bi_dp157
  rcases Nat.eq_or_lt_of_le h1 with h1 | h1
  · rw [← h1]; exact bi_dp158
  rcases Nat.eq_or_lt_of_le h1 with h1 | h1
  · rw [← h1]; exact bi_dp159
  rcases Nat.eq_or_lt_of_le h1 with h1 | h1
  · rw [← h1]; exact bi_dp160
  rcases Nat.eq_or_lt_of_le h1 with h1 | h1
  · rw [← h1]; exact bi_dp161
  rcases Nat.eq_or_lt_of_le h1 with h1 | h1
  · rw [← h1]; exact bi_dp162
  rcases Nat.eq_or_lt_of_le h1 with h1 | h1
  · rw [← h1]; exact bi_dp163
  rcases Nat.eq_or_lt_of_le h1 with h1 | h1
  · rw [← h1]; exact bi_dp164
  rcases Nat.eq_or_lt_of_le h1 with h1 | h1
  · rw [← h1]; exact bi_dp165
  rcases Nat.eq_or_lt_of_le h1 with h1 | h1
  · rw [← h1]; exact bi_dp166
  rcases Nat.eq_or_lt_of_le h1 with h1 | h1
  · rw [← h1]; exact bi_dp167
  rcases Nat.eq_or_lt_of_le h1 with h1 | h1
  · rw [← h1]; exact bi_dp168
  rcases Nat.eq_or_lt_of_le h1 with h1 | h1
  · rw [← h1]; exact bi_dp169
  rcases Nat.eq_or_lt_of_le h1 with h1 | h1
  · rw [← h1]; exact bi_dp170
  rcases Nat.eq_or_lt_of_le h1 with h1 | h1
  · rw [← h1]; exact bi_dp171
  rcases Nat.eq_or_lt_of_le h1 with h1 | h1
  · rw [← h1]; exact bi_dp172
  rcases Nat.eq_or_lt_of_le h1 with h1 | h1
  · rw [← h1]; exact bi_dp173
  rcases Nat.eq_or_lt_of_le h1 with h1 | h1
  · rw [← h1]; exact bi_dp174
  omega
theorem bi_dr175 : ∀ j, 175 ≤ j → j < 200 → bi_dP j := by
  intro j h1 h2
  rcases Nat.eq_or_lt_of_le h1 with h1 | h1
  · rw [← h1]; exact bi_dp175
  rcases Nat.eq_or_lt_of_le h1 with h1 | h1
  · rw [← h1]; exact bi_dp176
  rcases Nat.eq_or_lt_of_le h1 with h1 | h1
  · rw [← h1]; exact bi_dp177
  rcases Nat.eq_or_lt_of_le h1 with h1 | h1
  · rw [← h1]; exact bi_dp178
  rcases Nat.eq_or_lt_of_le h1 with h1 | h1
  · rw [← h1]; exact bi_dp179
  rcases Nat.eq_or_lt_of_le h1 with h1 | h1
  · rw [← h1]; exact bi_dp180
  rcases Nat.eq_or_lt_of_le h1 with h1 | h1
  · rw [← h1]; exact bi_dp181
  rcases Nat.eq_or_lt_of_le h1 with h1 | h1
  · rw [← h1]; exact bi_dp182
  rcases Nat.eq_or_lt_of_le h1 with h1 | h1
  · rw [← h1]; exact bi_dp183
  rcases Nat.eq_or_lt_of_le h1 with h1 | h1
  · rw [← h1]; exact bi_dp184
  rcases Nat.eq_or_lt_of_le h1 with h1 | h1
  · rw [← h1]; exact bi_dp185
  rcases Nat.eq_or_lt_of_le h1 with h1 | h1
  · rw [← h1]; exact bi_dp186
  rcases Nat.eq_or_lt_of_le h1 with h1 | h1
  · rw [← h1]; exact bi_dp187
  rcases Nat.eq_or_lt_of_le h1 with h1 | h1
  · rw [← h1]; exact bi_dp188
  rcases Nat.eq_or_lt_of_le h1 with h1 | h1
  · rw [← h1]; exact bi_dp189
  rcases Nat.eq_or_lt_of_le h1 with h1 | h1
  · rw [← h1]; exact bi_dp190
  rcases Nat.eq_or_lt_of_le h1 with h1 | h1
  · rw [← h1]; exact bi_dp191
  rcases Nat.eq_or_lt_of_le h1 with h1 | h1
  · rw [← h1]; exact bi_dp192
  rcases Nat.eq_or_lt_of_le h1 with h1 | h1
  · rw [← h1]; exact bi_dp193
  rcases Nat.eq_or_lt_of_le h1 with h1 | h1
  · rw [← h1]; exact bi_dp194
  rcases Nat.eq_or_lt_of_le h1 with h1 | h1
  · rw [← h1]; exact bi_dp195
  rcases Nat.eq_or_lt_of_le h1 with h1 | h1
  · rw [← h1]; exact bi_dp196
  rcases Nat.eq_or_lt_of_le h1 with h1 | h1
  · rw [← h1]; exact bi_dp197
  rcases Nat.eq_or_lt_of_le h1 with h1 | h1
  · rw [← h1]; exact bi_dp198
  rcases Nat.eq_or_lt_of_le h1 with h1 | h1
  · rw [← h1]; exact bi_dp199
  omega
theorem bi_dr200 : ∀ j, 200 ≤ j → j < 225 → bi_dP j := by
  intro j h1 h2
  rcases Nat.eq_or_lt_of_le h1 with h1 | h1
  · rw [← h1]; exact bi_dp200
  rcases Nat.eq_or_lt_of_le h1 with h1 | h1
  · rw [← h1]; exact bi_dp201
  rcases Nat.eq_or_lt_of_le h1 with h1 | h1
  · rw [← h1]; exact bi_dp202
  rcases Nat.eq_or_lt_of_le h1 with h1 | h1
  · rw [← h1]; exact bi_dp203
  rcases Nat.eq_or_lt_of_le h1 with h1 | h1
  · rw [← h1]; exact bi_dp204
  rcases Nat.eq_or_lt_of_le h1 with h1 | h1
  · rw [← h1]; exact bi_dp205
  rcases Nat.eq_or_lt_of_le h1 with h1 | h1
  · rw [← h1]; exact bi_dp206
  rcases Nat.eq_or_lt_of_le h1 with h1 | h1
  · rw [← h1]; exact bi_dp207
  rcases Nat.eq_or_lt_of_le h1 with h1 | h1
  · rw [← h1]; exact bi_dp208
  rcases Nat.eq_or_lt_of_le h1 with h1 | h1
  · rw [← h1]; exact bi_dp209
  rcases Nat.eq_or_lt_of_le h1 with h1 | h1
  · rw [← h1]; exact bi_dp210
  rcases Nat.eq_or_lt_of_le h1 with h1 | h1
  · rw [← h1]; exact bi_dp211
  rcases Nat.eq_or_lt_of_le h1 with h1 | h1
  · rw [← h1]; exact bi_dp212
  rcases Nat.eq_or_lt_of_le h1 with h1 | h1
  · rw [← h1]; exact bi_dp213
  rcases Nat.eq_or_lt_of_le h1 with h1 | h1
  · rw [← h1]; exact bi_dp214
  rcases Nat.eq_or_lt_of_le h1 with h1 | h1
  · rw [← h1]; exact bi_dp215
  rcases Nat.eq_or_lt_of_le h1 with h1 | h1
  · rw [← h1]; exact bi_dp216
  rcases Nat.eq_or_lt_of_le h1 with h1 | h1
  · rw [← h1]; exact bi_dp217
  rcases Nat.eq_or_lt_of_le h1 with h1 | h1
  · rw [← h1]; exact bi_dp218
  rcases Nat.eq_or_lt_of_le h1 with h1 | h1
  · rw [← h1]; exact bi_dp219
  rcases Nat.eq_or_lt_of_le h1 with h1 | h1
  · rw [← h1]; exact bi_dp220
  rcases Nat.eq_or_lt_of_le h1 with h1 | h1
  · rw [← h1]; exact bi_dp221
  rcases Nat.eq_or_lt_of_le h1 with h1 | h1
  · rw [← h1]; exact bi_dp222
  rcases Nat.eq_or_lt_of_le h1 with h1 | h1
  · rw [← h1]; exact bi_dp223
  rcases Nat.eq_or_lt_of_le h1 with h1 | h1
  · rw [← h1]; exact bi_dp224
  omega
theorem bi_dr225 : ∀ j, 225 ≤ j → j < 250 → bi_dP j := by
  intro j h1 h2
  rcases Nat.eq_or_lt_of_le h1 with h1 | h1
  · rw [← h1]; exact bi_dp225
  rcases Nat.eq_or_lt_of_le h1 with h1 | h1
  · rw [← h1]; exact bi_dp226
  rcases Nat.eq_or_lt_of_le h1 with h1 | h1
  · rw [← h1]; exact bi_dp227
  rcases Nat.eq_or_lt_of_le h1 with h1 | h1
  · rw [← h1]; exact bi_dp228
  rcases Nat.eq_or_lt_of_le h1 with h1 | h1
  · rw [← h1]; exact bi_dp229
  rcases Nat.eq_or_lt_of_le h1 with h1 | h1
  · rw [← h1]; exact bi_dp230
  rcases Nat.eq_or_lt_of_le h1 with h1 | h1
  · rw [← h1]; exact bi_dp231
  rcases Nat.eq_or_lt_of_le h1 with h1 | h1
  · rw [← h1]; exact bi_dp232
  rcases Nat.eq_or_lt_of_le h1 with h1 | h1
  · rw [← h1]; exact bi_dp233
  rcases Nat.eq_or_lt_of_le h1 with h1 | h1
  · rw [← h1]; exact bi_dp234
  rcases Nat.eq_or_lt_of_le h1 with h1 | h1
  · rw [← h1]; exact bi_dp235
  rcases Nat.eq_or_lt_of_le h1 with h1 | h1
  · rw [← h1]; exact bi_dp236
  rcases Nat.eq_or_lt_of_le h1 with h1 | h1
  · rw [← h1]; exact bi_dp237
  rcases Nat.eq_or_lt_of_le h1 with h1 | h1
  · rw [← h1]; exact bi_dp238
  rcases Nat.eq_or_lt_of_le h1 with h1 | h1
  · rw [← h1]; exact bi_dp239
  rcases Nat.eq_or_lt_of_le h1 with h1 | h1
  · rw [← h1]; exact bi_dp240
  rcases Nat.eq_or_lt_of_le h1 with h1 | h1
  · rw [← h1]; exact bi_dp241
  rcases Nat.eq_or_lt_of_le h1 with h1 | h1
  · rw [← h1]; exact bi_dp242
  rcases Nat.eq_or_lt_of_le h1 with h1 | h1
  · rw [← h1]; exact bi_dp243
  rcases Nat.eq_or_lt_of_le h1 with h1 | h1
  · rw [← h1]; exact bi_dp244
  rcases Nat.eq_or_lt_of_le h1 with h1 | h1
  · rw [← h1]; exact bi_dp245
  rcases Nat.eq_or_lt_of_le h1 with h1 | h1
  · rw [← h1]; exact bi_dp246
  rcases Nat.eq_or_lt_of_le h1 with h1 | h1
  · rw [← h1]; exact bi_dp247
  rcases Nat.eq_or_lt_of_le h1 with h1 | h1
  · rw [← h1]; exact bi_dp248
  rcases Nat.eq_or_lt_of_le h1 with h1 | h1
  · rw [← h1]; exact bi_dp249
  omega
theorem bi_dr250 : ∀ j, 250 ≤ j → j < 275 → bi_dP j := by
  intro j h1 h2
  rcases Nat.eq_or_lt_of_le h1 with h1 | h1
  · rw [← h1]; exact bi_dp250
  rcases Nat.eq_or_lt_of_le h1 with h1 | h1
  · rw [← h1]; exact bi_dp251
  rcases Nat.eq_or_lt_of_le h1 with h1 | h1
  · rw [← h1]; exact bi_dp252
  rcases Nat.eq_or_lt_of_le h1 with h1 | h1
  · rw [← h1]; exact bi_dp253
  rcases Nat.eq_or_lt_of_le h1 with h1 | h1
  · rw [← h1]; exact bi_dp254
  rcases Nat.eq_or_lt_of_le h1 with h1 | h1
  · rw [← h1]; exact bi_dp255
  rcases Nat.eq_or_lt_of_le h1 with h1 | h1
  · rw [← h1]; exact bi_dp256
  rcases Nat.eq_or_lt_of_le h1 with h1 | h1
  · rw [← h1]; exact bi_dp257
  rcases Nat.eq_or_lt_of_le h1 with h1 | h1
  · rw [← h1]; exact bi_dp258
  rcases Nat.eq_or_lt_of_le h1 with h1 | h1
  · rw [← h1]; exact bi_dp259
  rcases Nat.eq_or_lt_of_le h1 with h1 | h1
  · rw [← h1]; exact bi_dp260
  rcases Nat.eq_or_lt_of_le h1 with h1 | h1
  · rw [← h1]; exact bi_dp261
  rcases Nat.eq_or_lt_of_le h1 with h1 | h1
  · rw [← h1]; exact bi_dp262
  rcases Nat.eq_or_lt_of_le h1 with h1 | h1
  · rw [← h1]; exact bi_dp263
  rcases Nat.eq_or_lt_of_le h1 with h1 | h1
  · rw [← h1]; exact bi_dp264
  rcases Nat.eq_or_lt_of_le h1 with h1 | h1
  · rw [← h1]; exact bi_dp265
  rcases Nat.eq_or_lt_of_le h1 with h1 | h1
  · rw [← h1]; exact bi_dp266
  rcases Nat.eq_or_lt_of_le h1 with h1 | h1
  · rw [← h1]; exact bi_dp267
  rcases Nat.eq_or_lt_of_le h1 with h1 | h1
  · rw [← h1]; exact bi_dp268
  rcases Nat.eq_or_lt_of_le h1 with h1 | h1
  · rw [← h1]; exact bi_dp269
  rcases Nat.eq_or_lt_of_le h1 with h1 | h1
  · rw [← h1]; exact bi_dp270
  rcases Nat.eq_or_lt_of_le h1 with h1 | h1
  · rw [← h1]; exact bi_dp271
  rcases Nat.eq_or_lt_of_le h1 with h1 | h1
  · rw [← h1]; exact bi_dp272
  rcases Nat.eq_or_lt_of_le h1 with h1 | h1
  · rw [← h1]; exact bi_dp273
  rcases Nat.eq_or_lt_of_le h1 with h1 | h1
  · rw [← h1]; exact bi_dp274
  omega
theorem bi_dr275 : ∀ j, 275 ≤ j → j < 295 → bi_dP j := by
  intro j h1 h2
  rcases Nat.eq_or_lt_of_le h1 with h1 | h1
  · rw [← h1]; exact bi_dp275
  rcases Nat.eq_or_lt_of_le h1 with h1 | h1
  · rw [← h1]; exact bi_dp276
  rcases Nat.eq_or_lt_of_le h1 with h1 | h1
  · rw [← h1]; exact bi_dp277
  rcases Nat.eq_or_lt_of_le h1 with h1 | h1
  · rw [← h1]; exact bi_dp278
  rcases Nat.eq_or_lt_of_le h1 with h1 | h1
  · rw [← h1]; exact bi_dp279
  rcases Nat.eq_or_lt_of_le h1 with h1 | h1
  · rw [← h1]; exact bi_dp280
  rcases Nat.eq_or_lt_of_le h1 with h1 | h1
  · rw [← h1]; exact bi_dp281
  rcases Nat.eq_or_lt_of_le h1 with h1 | h1
  · rw [← h1]; exact bi_dp282
  rcases Nat.eq_or_lt_of_le h1 with h1 | h1
  · rw [← h1]; exact bi_dp283
  rcases Nat.eq_or_lt_of_le h1 with h1 | h1
  · rw [← h1]; exact bi_dp284
  rcases Nat.eq_or_lt_of_le h1 with h1 | h1
  · rw [← h1]; exact bi_dp285
  rcases Nat.eq_or_lt_of_le h1 with h1 | h1
  · rw [← h1]; exact bi_dp286
  rcases Nat.eq_or_lt_of_le h1 with h1 | h1
  · rw [← h1]; exact bi_dp287
  rcases Nat.eq_or_lt_of_le h1 with h1 | h1
  · rw [← h1]; exact bi_dp288
  rcases Nat.eq_or_lt_of_le h1 with h1 | h1
  · rw [← h1]; exact bi_dp289
  rcases Nat.eq_or_lt_of_le h1 with h1 | h1
  · rw [← h1]; exact bi_dp290
  rcases Nat.eq_or_lt_of_le h1 with h1 | h1
  · rw [← h1]; exact bi_dp291
  rcases Nat.eq_or_lt_of_le h1 with h1 | h1
  · rw [← h1]; exact bi_dp292
  rcases Nat.eq_or_lt_of_le h1 with h1 | h1
  · rw [← h1]; exact bi_dp293
  rcases Nat.eq_or_lt_of_le h1 with h1 | h1
  · rw [← h1]; exact bi_dp294
  omega
theorem bi_dec {j pc l : Nat} {i : Instr} (h : bi_fe j pc = some (i, l)) : decode (bi_mc j) pc = .ok (i, l) := by
  have hj : j < 295 := by
    unfold bi_fe at h
    cases hb : (Nat.blt j 295 && Nat.blt pc (bi_ln j)) with
    | false => rw [hb] at h; cases h
    | true =>
      simp only [Bool.and_eq_true, Nat.blt_eq] at hb
      exact hb.1
  rcases Nat.lt_or_ge j 25 with h0 | h0
  · exact bi_dr0 j (by omega) h0 pc i l h
  rcases Nat.lt_or_ge j 50 with h25 | h25
  · exact bi_dr25 j (by omega) h25 pc i l h
  rcases Nat.lt_or_ge j 75 with h50 | h50
  · exact bi_dr50 j (by omega) h50 pc i l h
  rcases Nat.lt_or_ge j 100 with h75 | h75
  · exact bi_dr75 j (by omega) h75 pc i l h
  rcases Nat.lt_or_ge j 125 with h100 | h100
  · exact bi_dr100 j (by omega) h100 pc i l h
  rcases Nat.lt_or_ge j 150 with h125 | h125
  · exact bi_dr125 j (by omega) h125 pc i l h
  rcases Nat.lt_or_ge j 175 with h150 | h150
  · exact bi_dr150 j (by omega) h150 pc i l h
  rcases Nat.lt_or_ge j 200 with h175 | h175
  · exact bi_dr175 j (by omega) h175 pc i l h
  rcases Nat.lt_or_ge j 225 with h200 | h200
  · exact bi_dr200 j (by omega) h200 pc i l h
  rcases Nat.lt_or_ge j 250 with h225 | h225
  · exact bi_dr225 j (by omega) h225 pc i l h
  rcases Nat.lt_or_ge j 275 with h250 | h250
  · exact bi_dr250 j (by omega) h250 pc i l h
  rcases Nat.lt_or_ge j 295 with h275 | h275
  · exact bi_dr275 j (by omega) h275 pc i l h
  omega
