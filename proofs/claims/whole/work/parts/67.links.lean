theorem lyX0 : ∀ k, k < 14 → u_lay RX0 TX0 k ∈ wTs
  | 0, _ => k_159
  | 1, _ => k_161
  | 2, _ => k_163
  | 3, _ => k_165
  | 4, _ => k_167
  | 5, _ => k_169
  | 6, _ => k_171
  | 7, _ => k_173
  | 8, _ => k_175
  | 9, _ => k_177
  | 10, _ => k_179
  | 11, _ => k_181
  | 12, _ => k_183
  | 13, _ => k_185
  | n + 14, h => absurd h (by omega)
theorem clX0 : wCl 0 RX0 TX0 14 tyX0 := ⟨fun w hw => by obtain ⟨k, hk, rfl⟩ := List.mem_map.mp hw; exact lyX0 k (List.mem_range.mp hk), rfl, tyX0_ok, nmX0⟩
theorem lyX1 : ∀ k, k < 4 → u_lay RX1 TX1 k ∈ wTs
  | 0, _ => k_244
  | 1, _ => k_246
  | 2, _ => k_248
  | 3, _ => k_250
  | n + 4, h => absurd h (by omega)
theorem clX1 : wCl 1 RX1 TX1 4 tyX1 := ⟨fun w hw => by obtain ⟨k, hk, rfl⟩ := List.mem_map.mp hw; exact lyX1 k (List.mem_range.mp hk), rfl, tyX1_ok, nmX1⟩
theorem lyX2 : ∀ k, k < 7 → u_lay RX2 TX2 k ∈ wTs
  | 0, _ => k_114
  | 1, _ => k_116
  | 2, _ => k_118
  | 3, _ => k_120
  | 4, _ => k_122
  | 5, _ => k_124
  | 6, _ => k_126
  | n + 7, h => absurd h (by omega)
theorem clX2 : wCl 2 RX2 TX2 7 tyX2 := ⟨fun w hw => by obtain ⟨k, hk, rfl⟩ := List.mem_map.mp hw; exact lyX2 k (List.mem_range.mp hk), rfl, tyX2_ok, nmX2⟩
theorem lyX3 : ∀ k, k < 2 → u_lay RX3 TX3 k ∈ wTs
  | 0, _ => k_263
  | 1, _ => k_265
  | n + 2, h => absurd h (by omega)
theorem clX3 : wCl 3 RX3 TX3 2 tyX3 := ⟨fun w hw => by obtain ⟨k, hk, rfl⟩ := List.mem_map.mp hw; exact lyX3 k (List.mem_range.mp hk), rfl, tyX3_ok, nmX3⟩
theorem lyX4 : ∀ k, k < 3 → u_lay RX4 TX4 k ∈ wTs
  | 0, _ => k_305
  | 1, _ => k_307
  | 2, _ => k_309
  | n + 3, h => absurd h (by omega)
theorem clX4 : wCl 4 RX4 TX4 3 tyX4 := ⟨fun w hw => by obtain ⟨k, hk, rfl⟩ := List.mem_map.mp hw; exact lyX4 k (List.mem_range.mp hk), rfl, tyX4_ok, nmX4⟩
theorem lyX5 : ∀ k, k < 7 → u_lay RX5 TX5 k ∈ wTs
  | 0, _ => k_63
  | 1, _ => k_65
  | 2, _ => k_67
  | 3, _ => k_69
  | 4, _ => k_71
  | 5, _ => k_73
  | 6, _ => k_75
  | n + 7, h => absurd h (by omega)
theorem clX5 : wCl 5 RX5 TX5 7 tyX5 := ⟨fun w hw => by obtain ⟨k, hk, rfl⟩ := List.mem_map.mp hw; exact lyX5 k (List.mem_range.mp hk), rfl, tyX5_ok, nmX5⟩
theorem lyX6 : ∀ k, k < 11 → u_lay RX6 TX6 k ∈ wTs
  | 0, _ => k_207
  | 1, _ => k_209
  | 2, _ => k_211
  | 3, _ => k_213
  | 4, _ => k_215
  | 5, _ => k_217
  | 6, _ => k_219
  | 7, _ => k_221
  | 8, _ => k_223
  | 9, _ => k_225
  | 10, _ => k_227
  | n + 11, h => absurd h (by omega)
theorem clX6 : wCl 6 RX6 TX6 11 tyX6 := ⟨fun w hw => by obtain ⟨k, hk, rfl⟩ := List.mem_map.mp hw; exact lyX6 k (List.mem_range.mp hk), rfl, tyX6_ok, nmX6⟩
theorem lyX7 : ∀ k, k < 3 → u_lay RX7 TX7 k ∈ wTs
  | 0, _ => k_323
  | 1, _ => k_325
  | 2, _ => k_327
  | n + 3, h => absurd h (by omega)
theorem clX7 : wCl 7 RX7 TX7 3 tyX7 := ⟨fun w hw => by obtain ⟨k, hk, rfl⟩ := List.mem_map.mp hw; exact lyX7 k (List.mem_range.mp hk), rfl, tyX7_ok, nmX7⟩
theorem lyX8 : ∀ k, k < 6 → u_lay RX8 TX8 k ∈ wTs
  | 0, _ => k_288
  | 1, _ => k_290
  | 2, _ => k_292
  | 3, _ => k_294
  | 4, _ => k_296
  | 5, _ => k_298
  | n + 6, h => absurd h (by omega)
theorem clX8 : wCl 8 RX8 TX8 6 tyX8 := ⟨fun w hw => by obtain ⟨k, hk, rfl⟩ := List.mem_map.mp hw; exact lyX8 k (List.mem_range.mp hk), rfl, tyX8_ok, nmX8⟩
theorem lyX9 : ∀ k, k < 2 → u_lay RX9 TX9 k ∈ wTs
  | 0, _ => k_40
  | 1, _ => k_42
  | n + 2, h => absurd h (by omega)
theorem clX9 : wCl 9 RX9 TX9 2 tyX9 := ⟨fun w hw => by obtain ⟨k, hk, rfl⟩ := List.mem_map.mp hw; exact lyX9 k (List.mem_range.mp hk), rfl, tyX9_ok, nmX9⟩
theorem lyX10 : ∀ k, k < 11 → u_lay RX10 TX10 k ∈ wTs
  | 0, _ => k_342
  | 1, _ => k_344
  | 2, _ => k_346
  | 3, _ => k_348
  | 4, _ => k_350
  | 5, _ => k_352
  | 6, _ => k_354
  | 7, _ => k_356
  | 8, _ => k_358
  | 9, _ => k_360
  | 10, _ => k_362
  | n + 11, h => absurd h (by omega)
theorem clX10 : wCl 10 RX10 TX10 11 tyX10 := ⟨fun w hw => by obtain ⟨k, hk, rfl⟩ := List.mem_map.mp hw; exact lyX10 k (List.mem_range.mp hk), rfl, tyX10_ok, nmX10⟩
theorem lyX11 : ∀ k, k < 49 → u_lay RX11 TX11 k ∈ wTs
  | 0, _ => k_1567
  | 1, _ => k_1569
  | 2, _ => k_1571
  | 3, _ => k_1573
  | 4, _ => k_1575
  | 5, _ => k_1577
  | 6, _ => k_1579
  | 7, _ => k_1581
  | 8, _ => k_1583
  | 9, _ => k_1585
  | 10, _ => k_1587
  | 11, _ => k_1589
  | 12, _ => k_1591
  | 13, _ => k_1593
  | 14, _ => k_1595
  | 15, _ => k_1597
  | 16, _ => k_1599
  | 17, _ => k_1601
  | 18, _ => k_1603
  | 19, _ => k_1605
  | 20, _ => k_1607
  | 21, _ => k_1609
  | 22, _ => k_1611
  | 23, _ => k_1613
  | 24, _ => k_1615
  | 25, _ => k_1617
  | 26, _ => k_1619
  | 27, _ => k_1621
  | 28, _ => k_1623
  | 29, _ => k_1625
  | 30, _ => k_1627
  | 31, _ => k_1629
  | 32, _ => k_1631
  | 33, _ => k_1633
  | 34, _ => k_1635
  | 35, _ => k_1637
  | 36, _ => k_1639
  | 37, _ => k_1641
  | 38, _ => k_1643
  | 39, _ => k_1645
  | 40, _ => k_1647
  | 41, _ => k_1649
  | 42, _ => k_1651
  | 43, _ => k_1653
  | 44, _ => k_1655
  | 45, _ => k_1657
  | 46, _ => k_1659
  | 47, _ => k_1661
  | 48, _ => k_1663
  | n + 49, h => absurd h (by omega)
theorem clX11 : wCl 11 RX11 TX11 49 tyX11 := ⟨fun w hw => by obtain ⟨k, hk, rfl⟩ := List.mem_map.mp hw; exact lyX11 k (List.mem_range.mp hk), rfl, tyX11_ok, nmX11⟩
theorem sh_0 : wSh[0]? = some (.inr (10, [some 1, some 3, some 7, some 13, some 23, some 28, some 32, some 34, some 141, some 142, some 145])) := rfl
theorem sh_1 : wSh[1]? = some (.inr (9, [some 2, none])) := rfl
theorem sh_2 : wSh[2]? = some (.inl (.char, 80, 0, 0)) := rfl
theorem sh_3 : wSh[3]? = some (.inr (5, [some 4, some 5, some 6, none, none, none, none])) := rfl
theorem sh_4 : wSh[4]? = some (.inl (.int, 40, 0, 0)) := rfl
theorem sh_5 : wSh[5]? = some (.inl (.int, 40, 0, 0)) := rfl
theorem sh_6 : wSh[6]? = some (.inl (.int, 40, 0, 0)) := rfl
theorem sh_7 : wSh[7]? = some (.inr (2, [some 8, some 9, some 10, some 11, none, none, some 12])) := rfl
theorem sh_8 : wSh[8]? = some (.inl (.int, 9, 0, 0)) := rfl
theorem sh_9 : wSh[9]? = some (.inl (.int, 9, 0, 0)) := rfl
theorem sh_10 : wSh[10]? = some (.inl (.int, 9, 0, 0)) := rfl
theorem sh_11 : wSh[11]? = some (.inl (.int, 3, 0, 0)) := rfl
theorem sh_12 : wSh[12]? = some (.inl (.int, 81, 0, 0)) := rfl
theorem sh_13 : wSh[13]? = some (.inr (0, [some 14, some 15, some 16, some 17, some 18, some 19, none, none, none, some 20, some 21, some 22, none, none])) := rfl
theorem sh_14 : wSh[14]? = some (.inl (.int, 9, 0, 0)) := rfl
theorem sh_15 : wSh[15]? = some (.inl (.int, 9, 0, 0)) := rfl
theorem sh_16 : wSh[16]? = some (.inl (.int, 9, 0, 0)) := rfl
theorem sh_17 : wSh[17]? = some (.inl (.int, 36, 0, 0)) := rfl
theorem sh_18 : wSh[18]? = some (.inl (.int, 36, 0, 0)) := rfl
theorem sh_19 : wSh[19]? = some (.inl (.int, 36, 0, 0)) := rfl
theorem sh_20 : wSh[20]? = some (.inl (.int, 9, 0, 0)) := rfl
theorem sh_21 : wSh[21]? = some (.inl (.int, 36, 0, 0)) := rfl
theorem sh_22 : wSh[22]? = some (.inl (.int, 9, 0, 0)) := rfl
theorem sh_23 : wSh[23]? = some (.inr (6, [some 24, none, some 25, none, some 26, some 27, none, none, none, none, none])) := rfl
theorem sh_24 : wSh[24]? = some (.inl (.long, 3000, 0, 0)) := rfl
theorem sh_25 : wSh[25]? = some (.inl (.long, 2048, 0, 0)) := rfl
theorem sh_26 : wSh[26]? = some (.inl (.int, 72, 0, 0)) := rfl
theorem sh_27 : wSh[27]? = some (.inl (.int, 72, 0, 0)) := rfl
theorem sh_28 : wSh[28]? = some (.inr (1, [some 29, some 30, none, some 31])) := rfl
theorem sh_29 : wSh[29]? = some (.inl (.int, 9, 0, 0)) := rfl
theorem sh_30 : wSh[30]? = some (.inl (.int, 9, 0, 0)) := rfl
theorem sh_31 : wSh[31]? = some (.inl (.int, 9, 0, 0)) := rfl
theorem sh_32 : wSh[32]? = some (.inr (3, [some 33, none])) := rfl
theorem sh_33 : wSh[33]? = some (.inl (.int, 10, 0, 0)) := rfl
theorem sh_34 : wSh[34]? = some (.inr (4, [none, some 35, none])) := rfl
theorem sh_35 : wSh[35]? = some (.inl (.object "WellsNotEven$Snapshot", 21, 36, 5)) := rfl
theorem sh_141 : wSh[141]? = some (.inl (.object "WellsNotEven$Snapshot", 3, 146, 5)) := rfl
theorem sh_142 : wSh[142]? = some (.inr (7, [none, some 143, some 144])) := rfl
theorem sh_143 : wSh[143]? = some (.inl (.int, 10, 0, 0)) := rfl
theorem sh_144 : wSh[144]? = some (.inl (.int, 10, 0, 0)) := rfl
theorem sh_145 : wSh[145]? = some (.inl (.int, 200, 0, 0)) := rfl
theorem sh_161 : wSh[161]? = some (.inr (11, [none, none, some 162, none, some 163, some 164, some 165, some 166, some 167, some 168, none, some 169, none, none, none, none, some 170, some 171, some 172, some 173, none, some 174, some 175, some 176, some 177, none, some 178, none, some 179, some 180, some 181, some 182, some 183, some 184, none, none, some 185, none, some 186, some 187, some 188, some 189, some 190, none, some 191, some 192, some 193, some 194, some 195])) := rfl
theorem sh_162 : wSh[162]? = some (.inl (.int, 24, 0, 0)) := rfl
theorem sh_163 : wSh[163]? = some (.inl (.int, 9, 0, 0)) := rfl
theorem sh_164 : wSh[164]? = some (.inl (.int, 9, 0, 0)) := rfl
theorem sh_165 : wSh[165]? = some (.inl (.int, 9, 0, 0)) := rfl
theorem sh_166 : wSh[166]? = some (.inl (.int, 81, 0, 0)) := rfl
theorem sh_167 : wSh[167]? = some (.inl (.int, 9, 0, 0)) := rfl
theorem sh_168 : wSh[168]? = some (.inl (.int, 3, 0, 0)) := rfl
theorem sh_169 : wSh[169]? = some (.inl (.int, 80, 0, 0)) := rfl
theorem sh_170 : wSh[170]? = some (.inl (.int, 9, 0, 0)) := rfl
theorem sh_171 : wSh[171]? = some (.inl (.int, 9, 0, 0)) := rfl
theorem sh_172 : wSh[172]? = some (.inl (.int, 9, 0, 0)) := rfl
theorem sh_173 : wSh[173]? = some (.inl (.int, 81, 0, 0)) := rfl
theorem sh_174 : wSh[174]? = some (.inl (.int, 399, 0, 0)) := rfl
theorem sh_175 : wSh[175]? = some (.inl (.int, 16, 0, 0)) := rfl
theorem sh_176 : wSh[176]? = some (.inl (.int, 16, 0, 0)) := rfl
theorem sh_177 : wSh[177]? = some (.inl (.int, 16, 0, 0)) := rfl
theorem sh_178 : wSh[178]? = some (.inl (.int, 9, 0, 0)) := rfl
theorem sh_179 : wSh[179]? = some (.inl (.long, 3000, 0, 0)) := rfl
theorem sh_180 : wSh[180]? = some (.inl (.int, 3000, 0, 0)) := rfl
theorem sh_181 : wSh[181]? = some (.inl (.int, 3000, 0, 0)) := rfl
theorem sh_182 : wSh[182]? = some (.inl (.int, 3000, 0, 0)) := rfl
theorem sh_183 : wSh[183]? = some (.inl (.int, 16384, 0, 0)) := rfl
theorem sh_184 : wSh[184]? = some (.inl (.int, 9, 0, 0)) := rfl
theorem sh_185 : wSh[185]? = some (.inl (.int, 3000, 0, 0)) := rfl
theorem sh_186 : wSh[186]? = some (.inl (.int, 9, 0, 0)) := rfl
theorem sh_187 : wSh[187]? = some (.inl (.int, 9, 0, 0)) := rfl
theorem sh_188 : wSh[188]? = some (.inl (.int, 9, 0, 0)) := rfl
theorem sh_189 : wSh[189]? = some (.inl (.int, 9, 0, 0)) := rfl
theorem sh_190 : wSh[190]? = some (.inl (.int, 9, 0, 0)) := rfl
theorem sh_191 : wSh[191]? = some (.inl (.int, 10, 0, 0)) := rfl
theorem sh_192 : wSh[192]? = some (.inl (.int, 10, 0, 0)) := rfl
theorem sh_193 : wSh[193]? = some (.inl (.int, 777, 0, 0)) := rfl
theorem sh_194 : wSh[194]? = some (.inl (.boolean, 3, 0, 0)) := rfl
theorem sh_195 : wSh[195]? = some (.inl (.int, 96, 0, 0)) := rfl
theorem fl_90 : wFl RX0 77 2 0 (tyX2 0) := ⟨RX2, TX2, 7, tyX2, clX2, by decide, k_90, rfl⟩
theorem fl_135 : wFl RX0 9 0 0 (tyX0 0) := ⟨RX0, TX0, 14, tyX0, clX0, by decide, k_135, rfl⟩
theorem fp_152 : wFp RX0 37 0 8 .boolean := ⟨RX0, TX0, 14, tyX0, clX0, by decide, k_152, rfl, rfl⟩
theorem fl_113 : wFl RX2 31 2 6 (tyX2 6) := ⟨RX2, TX2, 7, tyX2, clX2, by decide, k_113, rfl⟩
theorem fl_157 : wFl RX0 50 0 12 (tyX0 12) := ⟨RX0, TX0, 14, tyX0, clX0, by decide, k_157, rfl⟩
theorem ml_576 : wMv RX0 73 yX2_between cX2_between 3 (some .int) 2 2 := ⟨k_576, k_460, k_461, k_4, k_462, by decide +kernel, _, rfl, rfl⟩
theorem fl_142 : wFl RX0 21 0 3 (tyX0 3) := ⟨RX0, TX0, 14, tyX0, clX0, by decide, k_142, rfl⟩
theorem fl_148 : wFl RX0 30 0 6 (tyX0 6) := ⟨RX0, TX0, 14, tyX0, clX0, by decide, k_148, rfl⟩
theorem fl_144 : wFl RX0 24 0 4 (tyX0 4) := ⟨RX0, TX0, 14, tyX0, clX0, by decide, k_144, rfl⟩
theorem fl_146 : wFl RX0 27 0 5 (tyX0 5) := ⟨RX0, TX0, 14, tyX0, clX0, by decide, k_146, rfl⟩
theorem fp_148 : wFp RX0 30 0 6 .int := ⟨RX0, TX0, 14, tyX0, clX0, by decide, k_148, rfl, rfl⟩
theorem fl_105 : wFl RX0 56 2 4 (tyX2 4) := ⟨RX2, TX2, 7, tyX2, clX2, by decide, k_105, rfl⟩
theorem fp_157 : wFp RX0 50 0 12 .int := ⟨RX0, TX0, 14, tyX0, clX0, by decide, k_157, rfl, rfl⟩
theorem fl_101 : wFl RX0 59 2 3 (tyX2 3) := ⟨RX2, TX2, 7, tyX2, clX2, by decide, k_101, rfl⟩
theorem fp_158 : wFp RX0 53 0 13 .int := ⟨RX0, TX0, 14, tyX0, clX0, by decide, k_158, rfl, rfl⟩
theorem fl_94 : wFl RX0 62 2 1 (tyX2 1) := ⟨RX2, TX2, 7, tyX2, clX2, by decide, k_94, rfl⟩
theorem fl_138 : wFl RX0 15 0 1 (tyX0 1) := ⟨RX0, TX0, 14, tyX0, clX0, by decide, k_138, rfl⟩
theorem ml_572 : wMv RX0 69 yX0_rewind cX0_rewind 2 none 0 1 := ⟨k_572, k_573, k_574, k_6, k_575, by decide +kernel, _, rfl, rfl⟩
theorem fl_155 : wFl RX0 44 0 10 (tyX0 10) := ⟨RX0, TX0, 14, tyX0, clX0, by decide, k_155, rfl⟩
theorem fl_156 : wFl RX0 47 0 11 (tyX0 11) := ⟨RX0, TX0, 14, tyX0, clX0, by decide, k_156, rfl⟩
theorem ml_585 : wMs RX0 96 yJ7_fill_53178 cJ7_fill_53178 4 none 2 := ⟨k_585, k_86, k_5, k_87, by decide +kernel⟩
theorem fl_150 : wFl RX0 34 0 7 (tyX0 7) := ⟨RX0, TX0, 14, tyX0, clX0, by decide, k_150, rfl⟩
theorem fp_150 : wFp RX0 34 0 7 .int := ⟨RX0, TX0, 14, tyX0, clX0, by decide, k_150, rfl, rfl⟩
theorem ml_594 : wMn RX0 92 yX10_putToDepth "WellsNotEven" cX10_putToDepth 1 (some .int) 1 := ⟨k_594, k_487, k_1, k_488, by decide +kernel⟩
theorem fl_152 : wFl RX0 37 0 8 (tyX0 8) := ⟨RX0, TX0, 14, tyX0, clX0, by decide, k_152, rfl⟩
theorem fl_154 : wFl RX0 41 0 9 (tyX0 9) := ⟨RX0, TX0, 14, tyX0, clX0, by decide, k_154, rfl⟩
theorem ml_581 : wMv RX0 86 yX0_measureSeep cX0_measureSeep 3 none 0 0 := ⟨k_581, k_583, p_12, k_6, k_584, by decide +kernel, _, rfl, rfl⟩
theorem ml_589 : wMv RX0 89 yX0_letSeep cX0_letSeep 2 none 0 0 := ⟨k_589, k_591, p_13, k_6, k_592, by decide +kernel, _, rfl, rfl⟩
theorem fl_158 : wFl RX0 53 0 13 (tyX0 13) := ⟨RX0, TX0, 14, tyX0, clX0, by decide, k_158, rfl⟩
theorem ml_600 : wMv RX0 105 yX0_isEven cX0_isEven 2 (some .boolean) 0 1 := ⟨k_600, k_601, k_602, k_6, k_603, by decide +kernel, _, rfl, rfl⟩
theorem ml_702 : wMv RX0 109 yX0_firstEven cX0_firstEven 2 (some .int) 0 0 := ⟨k_702, k_630, k_631, k_6, k_632, by decide +kernel, _, rfl, rfl⟩
theorem ml_832 : wMv RX0 113 yX0_pass cX0_pass 5 none 0 2 := ⟨k_832, k_578, k_579, k_6, k_580, by decide +kernel, _, rfl, rfl⟩
theorem ml_833 : wMv RX0 117 yX0_isLawful cX0_isLawful 1 (some .boolean) 0 0 := ⟨k_833, k_699, k_700, k_6, k_701, by decide +kernel, _, rfl, rfl⟩
theorem fl_140 : wFl RX0 18 0 2 (tyX0 2) := ⟨RX0, TX0, 14, tyX0, clX0, by decide, k_140, rfl⟩
theorem fl_243 : wFl RX1 22 1 3 (tyX1 3) := ⟨RX1, TX1, 4, tyX1, clX1, by decide, k_243, rfl⟩
theorem ml_871 : wMv RX0 121 yX1_join cX1_join 3 none 1 2 := ⟨k_871, k_872, k_873, k_8, k_874, by decide +kernel, _, rfl, rfl⟩
theorem fp_241 : wFp RX1 18 1 2 .int := ⟨RX1, TX1, 4, tyX1, clX1, by decide, k_241, rfl, rfl⟩
theorem ml_866 : wMs RX1 25 yJ7_fill_53178 cJ7_fill_53178 4 none 2 := ⟨k_866, k_86, k_5, k_87, by decide +kernel⟩
theorem fl_104 : wFl RX2 24 2 4 (tyX2 4) := ⟨RX2, TX2, 7, tyX2, clX2, by decide, k_104, rfl⟩
theorem ml_506 : wMv RX2 48 yX2_between cX2_between 3 (some .int) 2 2 := ⟨k_506, k_460, k_461, k_4, k_462, by decide +kernel, _, rfl, rfl⟩
theorem fl_241 : wFl RX1 18 1 2 (tyX1 2) := ⟨RX1, TX1, 4, tyX1, clX1, by decide, k_241, rfl⟩
theorem ml_785 : wMv RX1 34 yX2_touching cX2_touching 4 (some .int) 2 1 := ⟨k_785, k_766, k_767, k_4, k_768, by decide +kernel, _, rfl, rfl⟩
theorem fl_108 : wFl RX1 31 2 4 (tyX2 4) := ⟨RX2, TX2, 7, tyX2, clX2, by decide, k_108, rfl⟩
theorem ml_810 : wMs RX1 38 yJ6_bitCount_0f7a4 cJ6_bitCount_0f7a4 1 (some .int) 1 := ⟨k_810, k_745, k_20, k_746, by decide +kernel⟩
theorem fl_237 : wFl RX1 9 1 0 (tyX1 0) := ⟨RX1, TX1, 4, tyX1, clX1, by decide, k_237, rfl⟩
theorem ml_793 : wMv RX1 47 yX1_isUnlike cX1_isUnlike 3 (some .boolean) 1 1 := ⟨k_793, k_795, p_25, k_8, k_796, by decide +kernel, _, rfl, rfl⟩
theorem ml_790 : wMs RX1 43 yX1_paintFrom cX1_paintFrom 5 (some .boolean) 4 := ⟨k_790, k_791, k_8, k_792, by decide +kernel⟩
theorem ml_811 : wMv RX1 57 yX1_isKnot cX1_isKnot 3 (some .boolean) 1 1 := ⟨k_811, k_813, p_27, k_8, k_814, by decide +kernel, _, rfl, rfl⟩
theorem ml_879 : wMv RX1 60 yX1_isCover cX1_isCover 3 (some .boolean) 1 1 := ⟨k_879, k_881, p_28, k_8, k_882, by decide +kernel, _, rfl, rfl⟩
theorem fl_239 : wFl RX1 15 1 1 (tyX1 1) := ⟨RX1, TX1, 4, tyX1, clX1, by decide, k_239, rfl⟩
theorem ml_935 : wMv RX1 63 yX1_measureAround cX1_measureAround 4 none 1 2 := ⟨k_935, k_937, p_30, k_8, k_938, by decide +kernel, _, rfl, rfl⟩
theorem ml_455 : wMv RX2 40 yX2_has cX2_has 2 (some .boolean) 2 1 := ⟨k_455, k_456, k_457, k_4, k_458, by decide +kernel, _, rfl, rfl⟩
theorem ml_559 : wMv RX2 44 yX2_everyone cX2_everyone 1 (some .int) 2 0 := ⟨k_559, k_560, k_561, k_4, k_562, by decide +kernel, _, rfl, rfl⟩
theorem fl_88 : wFl RX2 9 2 0 (tyX2 0) := ⟨RX2, TX2, 7, tyX2, clX2, by decide, k_88, rfl⟩
theorem fl_92 : wFl RX2 15 2 1 (tyX2 1) := ⟨RX2, TX2, 7, tyX2, clX2, by decide, k_92, rfl⟩
theorem fp_104 : wFp RX2 24 2 4 .int := ⟨RX2, TX2, 7, tyX2, clX2, by decide, k_104, rfl, rfl⟩
theorem ml_1028 : wMv RX2 52 yX2_touching cX2_touching 4 (some .int) 2 1 := ⟨k_1028, k_766, k_767, k_4, k_768, by decide +kernel, _, rfl, rfl⟩
theorem ml_744 : wMs RX2 56 yJ6_bitCount_0f7a4 cJ6_bitCount_0f7a4 1 (some .int) 1 := ⟨k_744, k_745, k_20, k_746, by decide +kernel⟩
theorem fl_99 : wFl RX2 21 2 3 (tyX2 3) := ⟨RX2, TX2, 7, tyX2, clX2, by decide, k_99, rfl⟩
theorem ml_637 : wMv RX2 61 yX2_isNear cX2_isNear 3 (some .boolean) 2 2 := ⟨k_637, k_639, p_14, k_4, k_640, by decide +kernel, _, rfl, rfl⟩
theorem ml_505 : wMv RX2 70 yX2_hasTwo cX2_hasTwo 3 (some .boolean) 2 2 := ⟨k_505, k_452, k_453, k_4, k_454, by decide +kernel, _, rfl, rfl⟩
theorem ml_743 : wMv RX2 79 yX2_evenWith cX2_evenWith 4 (some .int) 2 1 := ⟨k_743, k_634, k_635, k_4, k_636, by decide +kernel, _, rfl, rfl⟩
theorem ml_750 : wMv RX2 82 yX2_bring cX2_bring 3 none 2 2 := ⟨k_750, k_524, k_525, k_4, k_526, by decide +kernel, _, rfl, rfl⟩
theorem ml_751 : wMv RX2 76 yX2_canCarry cX2_canCarry 3 (some .boolean) 2 2 := ⟨k_751, k_502, k_503, k_4, k_504, by decide +kernel, _, rfl, rfl⟩
theorem ml_739 : wMv RX2 73 yX2_evensAfter cX2_evensAfter 4 (some .int) 2 2 := ⟨k_739, k_740, k_741, k_4, k_742, by decide +kernel, _, rfl, rfl⟩
theorem fl_96 : wFl RX2 18 2 2 (tyX2 2) := ⟨RX2, TX2, 7, tyX2, clX2, by decide, k_96, rfl⟩
theorem fp_261 : wFp RX3 15 3 1 .int := ⟨RX3, TX3, 2, tyX3, clX3, by decide, k_261, rfl, rfl⟩
theorem fl_261 : wFl RX3 15 3 1 (tyX3 1) := ⟨RX3, TX3, 2, tyX3, clX3, by decide, k_261, rfl⟩
theorem fl_259 : wFl RX3 9 3 0 (tyX3 0) := ⟨RX3, TX3, 2, tyX3, clX3, by decide, k_259, rfl⟩
theorem ml_543 : wMv RX3 25 yX3_clear cX3_clear 1 none 3 0 := ⟨k_543, k_544, k_545, k_9, k_546, by decide +kernel, _, rfl, rfl⟩
theorem ml_547 : wMv RX3 28 yX3_add cX3_add 2 none 3 1 := ⟨k_547, k_548, k_549, k_9, k_550, by decide +kernel, _, rfl, rfl⟩
theorem fp_301 : wFp RX4 9 4 0 .int := ⟨RX4, TX4, 3, tyX4, clX4, by decide, k_301, rfl, rfl⟩
theorem fl_89 : wFl RX8 31 2 0 (tyX2 0) := ⟨RX2, TX2, 7, tyX2, clX2, by decide, k_89, rfl⟩
theorem fl_281 : wFl RX8 9 8 0 (tyX8 0) := ⟨RX8, TX8, 6, tyX8, clX8, by decide, k_281, rfl⟩
theorem fl_93 : wFl RX8 40 2 1 (tyX2 1) := ⟨RX2, TX2, 7, tyX2, clX2, by decide, k_93, rfl⟩
theorem fl_282 : wFl RX8 15 8 1 (tyX8 1) := ⟨RX8, TX8, 6, tyX8, clX8, by decide, k_282, rfl⟩
theorem fl_97 : wFl RX8 41 2 2 (tyX2 2) := ⟨RX2, TX2, 7, tyX2, clX2, by decide, k_97, rfl⟩
theorem fl_283 : wFl RX8 18 8 2 (tyX8 2) := ⟨RX8, TX8, 6, tyX8, clX8, by decide, k_283, rfl⟩
theorem fl_102 : wFl RX8 42 2 3 (tyX2 3) := ⟨RX2, TX2, 7, tyX2, clX2, by decide, k_102, rfl⟩
theorem fl_284 : wFl RX8 21 8 3 (tyX8 3) := ⟨RX8, TX8, 6, tyX8, clX8, by decide, k_284, rfl⟩
theorem fl_111 : wFl RX8 43 2 5 (tyX2 5) := ⟨RX2, TX2, 7, tyX2, clX2, by decide, k_111, rfl⟩
theorem fp_285 : wFp RX8 24 8 4 .int := ⟨RX8, TX8, 6, tyX8, clX8, by decide, k_285, rfl, rfl⟩
theorem fl_107 : wFl RX8 44 2 4 (tyX2 4) := ⟨RX2, TX2, 7, tyX2, clX2, by decide, k_107, rfl⟩
theorem fp_286 : wFp RX8 28 8 5 .int := ⟨RX8, TX8, 6, tyX8, clX8, by decide, k_286, rfl, rfl⟩
theorem fl_303 : wFl RX4 17 4 1 (tyX4 1) := ⟨RX4, TX4, 3, tyX4, clX4, by decide, k_303, rfl⟩
theorem fl_304 : wFl RX4 21 4 2 (tyX4 2) := ⟨RX4, TX4, 3, tyX4, clX4, by decide, k_304, rfl⟩
theorem ml_511 : wMv RX4 25 yX8_take cX8_take 2 none 8 1 := ⟨k_511, k_512, k_513, k_11, k_514, by decide +kernel, _, rfl, rfl⟩
theorem fp_304 : wFp RX4 21 4 2 .int := ⟨RX4, TX4, 3, tyX4, clX4, by decide, k_304, rfl, rfl⟩
theorem fl_301 : wFl RX4 9 4 0 (tyX4 0) := ⟨RX4, TX4, 3, tyX4, clX4, by decide, k_301, rfl⟩
theorem fl_285 : wFl RX8 24 8 4 (tyX8 4) := ⟨RX8, TX8, 6, tyX8, clX8, by decide, k_285, rfl⟩
theorem fp_111 : wFp RX8 43 2 5 .int := ⟨RX2, TX2, 7, tyX2, clX2, by decide, k_111, rfl, rfl⟩
theorem ml_621 : wMv RX4 35 yX8_giveWeeks cX8_giveWeeks 2 none 8 1 := ⟨k_621, k_622, k_623, k_11, k_624, by decide +kernel, _, rfl, rfl⟩
theorem fl_58 : wFl RX5 21 5 3 (tyX5 3) := ⟨RX5, TX5, 7, tyX5, clX5, by decide, k_58, rfl⟩
theorem fl_52 : wFl RX5 9 5 0 (tyX5 0) := ⟨RX5, TX5, 7, tyX5, clX5, by decide, k_52, rfl⟩
theorem fl_54 : wFl RX5 15 5 1 (tyX5 1) := ⟨RX5, TX5, 7, tyX5, clX5, by decide, k_54, rfl⟩
theorem fl_56 : wFl RX5 18 5 2 (tyX5 2) := ⟨RX5, TX5, 7, tyX5, clX5, by decide, k_56, rfl⟩
theorem fp_58 : wFp RX5 21 5 3 .int := ⟨RX5, TX5, 7, tyX5, clX5, by decide, k_58, rfl, rfl⟩
theorem fp_62 : wFp RX5 31 5 6 .int := ⟨RX5, TX5, 7, tyX5, clX5, by decide, k_62, rfl, rfl⟩
theorem fl_60 : wFl RX5 25 5 4 (tyX5 4) := ⟨RX5, TX5, 7, tyX5, clX5, by decide, k_60, rfl⟩
theorem fp_60 : wFp RX5 25 5 4 .int := ⟨RX5, TX5, 7, tyX5, clX5, by decide, k_60, rfl, rfl⟩
theorem ml_407 : wMv RX5 87 yX5_beginLine cX5_beginLine 5 (some .boolean) 5 4 := ⟨k_407, k_409, p_3, k_3, k_410, by decide +kernel, _, rfl, rfl⟩
theorem fl_61 : wFl RX5 28 5 5 (tyX5 5) := ⟨RX5, TX5, 7, tyX5, clX5, by decide, k_61, rfl⟩
theorem ml_423 : wMv RX5 79 yX5_takeLastDigit cX5_takeLastDigit 3 (some .boolean) 5 2 := ⟨k_423, k_425, p_7, k_3, k_426, by decide +kernel, _, rfl, rfl⟩
theorem fl_62 : wFl RX5 31 5 6 (tyX5 6) := ⟨RX5, TX5, 7, tyX5, clX5, by decide, k_62, rfl⟩
theorem ml_400 : wMs RX5 61 yX5_isDigit cX5_isDigit 1 (some .boolean) 1 := ⟨k_400, k_401, k_3, k_402, by decide +kernel⟩
theorem ml_411 : wMv RX5 68 yX5_beginPair cX5_beginPair 4 (some .boolean) 5 3 := ⟨k_411, k_413, p_4, k_3, k_414, by decide +kernel, _, rfl, rfl⟩
theorem ml_403 : wMv RX5 64 yX5_beginFarm cX5_beginFarm 2 (some .boolean) 5 1 := ⟨k_403, k_405, p_2, k_3, k_406, by decide +kernel, _, rfl, rfl⟩
theorem ml_419 : wMv RX5 75 yX5_goesOn cX5_goesOn 4 (some .boolean) 5 3 := ⟨k_419, k_421, p_6, k_3, k_422, by decide +kernel, _, rfl, rfl⟩
theorem ml_415 : wMv RX5 72 yX5_takeSecondDigit cX5_takeSecondDigit 2 (some .boolean) 5 1 := ⟨k_415, k_417, p_5, k_3, k_418, by decide +kernel, _, rfl, rfl⟩
theorem ml_427 : wMv RX5 83 yX5_takeOther cX5_takeOther 3 (some .boolean) 5 2 := ⟨k_427, k_429, p_8, k_3, k_430, by decide +kernel, _, rfl, rfl⟩
theorem fl_39 : wFl RX5 38 9 1 (tyX9 1) := ⟨RX9, TX9, 2, tyX9, clX9, by decide, k_39, rfl⟩
theorem ml_431 : wMv RX5 57 yX5_mayEnd cX5_mayEnd 1 (some .boolean) 5 0 := ⟨k_431, k_433, p_9, k_3, k_434, by decide +kernel, _, rfl, rfl⟩
theorem fl_36 : wFl RX5 49 9 0 (tyX9 0) := ⟨RX9, TX9, 2, tyX9, clX9, by decide, k_36, rfl⟩
theorem ml_396 : wMv RX5 53 yX5_takes cX5_takes 2 (some .boolean) 5 1 := ⟨k_396, k_398, p_1, k_3, k_399, by decide +kernel, _, rfl, rfl⟩
theorem fp_61 : wFp RX5 28 5 5 .int := ⟨RX5, TX5, 7, tyX5, clX5, by decide, k_61, rfl, rfl⟩
theorem ml_389 : wMv RX5 34 yX5_readUpTo cX5_readUpTo 5 (some .int) 5 2 := ⟨k_389, k_391, p_0, k_3, k_392, by decide +kernel, _, rfl, rfl⟩
theorem fl_106 : wFl RX6 53 2 4 (tyX2 4) := ⟨RX2, TX2, 7, tyX2, clX2, by decide, k_106, rfl⟩
theorem ml_659 : wMv RX6 56 yX2_between cX2_between 3 (some .int) 2 2 := ⟨k_659, k_460, k_461, k_4, k_462, by decide +kernel, _, rfl, rfl⟩
theorem fl_200 : wFl RX6 25 6 4 (tyX6 4) := ⟨RX6, TX6, 11, tyX6, clX6, by decide, k_200, rfl⟩
theorem fl_202 : wFl RX6 32 6 6 (tyX6 6) := ⟨RX6, TX6, 11, tyX6, clX6, by decide, k_202, rfl⟩
theorem fl_201 : wFl RX6 29 6 5 (tyX6 5) := ⟨RX6, TX6, 11, tyX6, clX6, by decide, k_201, rfl⟩
theorem fp_202 : wFp RX6 32 6 6 .int := ⟨RX6, TX6, 11, tyX6, clX6, by decide, k_202, rfl, rfl⟩
theorem fl_100 : wFl RX6 48 2 3 (tyX2 3) := ⟨RX2, TX2, 7, tyX2, clX2, by decide, k_100, rfl⟩
theorem fp_203 : wFp RX6 35 6 7 .int := ⟨RX6, TX6, 11, tyX6, clX6, by decide, k_203, rfl, rfl⟩
theorem fl_199 : wFl RX6 22 6 3 (tyX6 3) := ⟨RX6, TX6, 11, tyX6, clX6, by decide, k_199, rfl⟩
theorem fp_199 : wFp RX6 22 6 3 .int := ⟨RX6, TX6, 11, tyX6, clX6, by decide, k_199, rfl, rfl⟩
theorem fl_198 : wFl RX6 19 6 2 (tyX6 2) := ⟨RX6, TX6, 11, tyX6, clX6, by decide, k_198, rfl⟩
theorem fl_196 : wFl RX6 15 6 1 (tyX6 1) := ⟨RX6, TX6, 11, tyX6, clX6, by decide, k_196, rfl⟩
theorem fl_194 : wFl RX6 9 6 0 (tyX6 0) := ⟨RX6, TX6, 11, tyX6, clX6, by decide, k_194, rfl⟩
theorem ml_679 : wMv RX6 104 yX6_indexOf cX6_indexOf 7 (some .int) 6 1 := ⟨k_679, k_681, p_19, k_7, k_682, by decide +kernel, _, rfl, rfl⟩
theorem fp_196 : wFp RX6 15 6 1 .int := ⟨RX6, TX6, 11, tyX6, clX6, by decide, k_196, rfl, rfl⟩
theorem ml_672 : wMs RX6 60 yJ7_fill_d0a16 cJ7_fill_d0a16 5 none 2 := ⟨k_672, k_673, k_5, k_674, by decide +kernel⟩
theorem fp_204 : wFp RX6 38 6 8 .int := ⟨RX6, TX6, 11, tyX6, clX6, by decide, k_204, rfl, rfl⟩
theorem fp_205 : wFp RX6 41 6 9 .int := ⟨RX6, TX6, 11, tyX6, clX6, by decide, k_205, rfl, rfl⟩
theorem fp_206 : wFp RX6 44 6 10 .boolean := ⟨RX6, TX6, 11, tyX6, clX6, by decide, k_206, rfl, rfl⟩
theorem ml_675 : wMv RX6 66 yX6_add cX6_add 3 (some .boolean) 6 1 := ⟨k_675, k_677, p_18, k_7, k_678, by decide +kernel, _, rfl, rfl⟩
theorem fl_203 : wFl RX6 35 6 7 (tyX6 7) := ⟨RX6, TX6, 11, tyX6, clX6, by decide, k_203, rfl⟩
theorem fl_206 : wFl RX6 44 6 10 (tyX6 10) := ⟨RX6, TX6, 11, tyX6, clX6, by decide, k_206, rfl⟩
theorem fl_205 : wFl RX6 41 6 9 (tyX6 9) := ⟨RX6, TX6, 11, tyX6, clX6, by decide, k_205, rfl⟩
theorem fl_204 : wFl RX6 38 6 8 (tyX6 8) := ⟨RX6, TX6, 11, tyX6, clX6, by decide, k_204, rfl⟩
theorem ml_689 : wMv RX6 98 yX6_carried cX6_carried 8 (some .long) 6 2 := ⟨k_689, k_691, p_21, k_7, k_692, by decide +kernel, _, rfl, rfl⟩
theorem ml_694 : wMv RX6 84 yX0_unpack cX0_unpack 4 none 0 1 := ⟨k_694, k_695, k_696, k_6, k_697, by decide +kernel, _, rfl, rfl⟩
theorem ml_698 : wMv RX6 87 yX0_isLawful cX0_isLawful 1 (some .boolean) 0 0 := ⟨k_698, k_699, k_700, k_6, k_701, by decide +kernel, _, rfl, rfl⟩
theorem fl_136 : wFl RX6 91 0 0 (tyX0 0) := ⟨RX0, TX0, 14, tyX0, clX0, by decide, k_136, rfl⟩
theorem ml_685 : wMv RX6 80 yX6_findOne cX6_findOne 4 (some .boolean) 6 1 := ⟨k_685, k_687, p_20, k_7, k_688, by decide +kernel, _, rfl, rfl⟩
theorem ml_664 : wMv RX6 70 yX0_pack cX0_pack 4 (some .long) 0 0 := ⟨k_664, k_665, k_666, k_6, k_667, by decide +kernel, _, rfl, rfl⟩
theorem ml_668 : wMv RX6 76 yX6_start cX6_start 3 none 6 1 := ⟨k_668, k_670, p_17, k_7, k_671, by decide +kernel, _, rfl, rfl⟩
theorem ml_853 : wMv RX6 94 yX0_pass cX0_pass 5 none 0 2 := ⟨k_853, k_578, k_579, k_6, k_580, by decide +kernel, _, rfl, rfl⟩
theorem ml_708 : wMv RX6 116 yX6_moveBack cX6_moveBack 8 (some .int) 6 1 := ⟨k_708, k_710, p_22, k_7, k_711, by decide +kernel, _, rfl, rfl⟩
theorem ml_717 : wMv RX6 112 yX6_cameFrom cX6_cameFrom 3 (some .int) 6 1 := ⟨k_717, k_719, p_23, k_7, k_720, by decide +kernel, _, rfl, rfl⟩
theorem ml_712 : wMv RX6 124 yX3_addAhead cX3_addAhead 3 none 3 1 := ⟨k_712, k_713, k_714, k_9, k_715, by decide +kernel, _, rfl, rfl⟩
theorem ml_707 : wMv RX6 119 yX3_clear cX3_clear 1 none 3 0 := ⟨k_707, k_544, k_545, k_9, k_546, by decide +kernel, _, rfl, rfl⟩
theorem fl_319 : wFl RX7 9 7 0 (tyX7 0) := ⟨RX7, TX7, 3, tyX7, clX7, by decide, k_319, rfl⟩
theorem fl_321 : wFl RX7 15 7 1 (tyX7 1) := ⟨RX7, TX7, 3, tyX7, clX7, by decide, k_321, rfl⟩
theorem fl_322 : wFl RX7 19 7 2 (tyX7 2) := ⟨RX7, TX7, 3, tyX7, clX7, by decide, k_322, rfl⟩
theorem fp_319 : wFp RX7 9 7 0 .int := ⟨RX7, TX7, 3, tyX7, clX7, by decide, k_319, rfl, rfl⟩
theorem ml_969 : wMv RX7 34 yX0_evenPairs cX0_evenPairs 3 (some .int) 0 0 := ⟨k_969, k_605, k_606, k_6, k_607, by decide +kernel, _, rfl, rfl⟩
theorem ml_968 : wMv RX7 28 yX0_pass cX0_pass 5 none 0 2 := ⟨k_968, k_578, k_579, k_6, k_580, by decide +kernel, _, rfl, rfl⟩
theorem fl_35 : wFl RX9 9 9 0 (tyX9 0) := ⟨RX9, TX9, 2, tyX9, clX9, by decide, k_35, rfl⟩
theorem fl_37 : wFl RX9 15 9 1 (tyX9 1) := ⟨RX9, TX9, 2, tyX9, clX9, by decide, k_37, rfl⟩
theorem fp_37 : wFp RX9 15 9 1 .int := ⟨RX9, TX9, 2, tyX9, clX9, by decide, k_37, rfl, rfl⟩
theorem fl_331 : wFl RX10 12 10 0 (tyX10 0) := ⟨RX10, TX10, 11, tyX10, clX10, by decide, k_331, rfl⟩
theorem ml_369 : wMv RX10 83 yX9_append cX9_append 3 (some .boolean) 9 1 := ⟨k_369, k_370, k_371, k_2, k_372, by decide +kernel, _, rfl, rfl⟩
theorem fl_38 : wFl RX10 87 9 1 (tyX9 1) := ⟨RX9, TX9, 2, tyX9, clX9, by decide, k_38, rfl⟩
theorem ml_377 : wMv RX10 91 yX9_cut cX9_cut 2 (some .boolean) 9 1 := ⟨k_377, k_378, k_379, k_2, k_380, by decide +kernel, _, rfl, rfl⟩
theorem fl_332 : wFl RX10 19 10 1 (tyX10 1) := ⟨RX10, TX10, 11, tyX10, clX10, by decide, k_332, rfl⟩
theorem fl_59 : wFl RX10 101 5 3 (tyX5 3) := ⟨RX5, TX5, 7, tyX5, clX5, by decide, k_59, rfl⟩
theorem fl_53 : wFl RX10 107 5 0 (tyX5 0) := ⟨RX5, TX5, 7, tyX5, clX5, by decide, k_53, rfl⟩
theorem fl_333 : wFl RX10 26 10 2 (tyX10 2) := ⟨RX10, TX10, 11, tyX10, clX10, by decide, k_333, rfl⟩
theorem fl_55 : wFl RX10 110 5 1 (tyX5 1) := ⟨RX5, TX5, 7, tyX5, clX5, by decide, k_55, rfl⟩
theorem fl_57 : wFl RX10 113 5 2 (tyX5 2) := ⟨RX5, TX5, 7, tyX5, clX5, by decide, k_57, rfl⟩
theorem ml_439 : wMv RX10 116 yX2_settle cX2_settle 3 (some .int) 2 2 := ⟨k_439, k_440, k_441, k_4, k_442, by decide +kernel, _, rfl, rfl⟩
theorem ml_443 : wMv RX10 120 yX2_join cX2_join 4 none 2 3 := ⟨k_443, k_444, k_445, k_4, k_446, by decide +kernel, _, rfl, rfl⟩
theorem fl_109 : wFl RX10 94 2 4 (tyX2 4) := ⟨RX2, TX2, 7, tyX2, clX2, by decide, k_109, rfl⟩
theorem ml_385 : wMv RX10 97 yX5_readCounty cX5_readCounty 3 (some .int) 5 2 := ⟨k_385, k_386, k_387, k_3, k_388, by decide +kernel, _, rfl, rfl⟩
theorem fl_338 : wFl RX10 61 10 7 (tyX10 7) := ⟨RX10, TX10, 11, tyX10, clX10, by decide, k_338, rfl⟩
theorem ml_435 : wMv RX10 104 yX4_clear cX4_clear 1 none 4 0 := ⟨k_435, k_436, k_437, k_10, k_438, by decide +kernel, _, rfl, rfl⟩
theorem ml_451 : wMv RX10 152 yX2_hasTwo cX2_hasTwo 3 (some .boolean) 2 2 := ⟨k_451, k_452, k_453, k_4, k_454, by decide +kernel, _, rfl, rfl⟩
theorem ml_459 : wMv RX10 156 yX2_between cX2_between 3 (some .int) 2 2 := ⟨k_459, k_460, k_461, k_4, k_462, by decide +kernel, _, rfl, rfl⟩
theorem ml_467 : wMs RX10 159 yX10_isWithin cX10_isWithin 3 (some .boolean) 3 := ⟨k_467, k_468, k_1, k_469, by decide +kernel⟩
theorem fl_103 : wFl RX10 163 2 3 (tyX2 3) := ⟨RX2, TX2, 7, tyX2, clX2, by decide, k_103, rfl⟩
theorem fl_91 : wFl RX10 134 2 0 (tyX2 0) := ⟨RX2, TX2, 7, tyX2, clX2, by decide, k_91, rfl⟩
theorem fl_95 : wFl RX10 137 2 1 (tyX2 1) := ⟨RX2, TX2, 7, tyX2, clX2, by decide, k_95, rfl⟩
theorem ml_478 : wMv RX10 124 yX2_has cX2_has 2 (some .boolean) 2 1 := ⟨k_478, k_456, k_457, k_4, k_458, by decide +kernel, _, rfl, rfl⟩
theorem ml_493 : wMv RX10 172 yX2_allDepths cX2_allDepths 3 (some .int) 2 0 := ⟨k_493, k_494, k_495, k_4, k_496, by decide +kernel, _, rfl, rfl⟩
theorem ml_483 : wMs RX10 166 yX10_entryOf cX10_entryOf 2 (some .int) 2 := ⟨k_483, k_484, k_1, k_485, by decide +kernel⟩
theorem ml_486 : wMs RX10 169 yX10_putToDepth cX10_putToDepth 1 (some .int) 1 := ⟨k_486, k_487, k_1, k_488, by decide +kernel⟩
theorem ml_501 : wMv RX10 184 yX2_canCarry cX2_canCarry 3 (some .boolean) 2 2 := ⟨k_501, k_502, k_503, k_4, k_504, by decide +kernel, _, rfl, rfl⟩
theorem ml_507 : wMv RX10 187 yX4_note cX4_note 2 none 4 1 := ⟨k_507, k_508, k_509, k_10, k_510, by decide +kernel, _, rfl, rfl⟩
theorem ml_518 : wMv RX10 191 yX4_keepNoted cX4_keepNoted 1 none 4 0 := ⟨k_518, k_519, k_520, k_10, k_521, by decide +kernel, _, rfl, rfl⟩
theorem ml_523 : wMv RX10 194 yX2_bring cX2_bring 3 none 2 2 := ⟨k_523, k_524, k_525, k_4, k_526, by decide +kernel, _, rfl, rfl⟩
theorem ml_539 : wMv RX10 206 yX3_tell cX3_tell 2 none 3 1 := ⟨k_539, k_540, k_541, k_9, k_542, by decide +kernel, _, rfl, rfl⟩
theorem fl_337 : wFl RX10 54 10 6 (tyX10 6) := ⟨RX10, TX10, 11, tyX10, clX10, by decide, k_337, rfl⟩
theorem ml_535 : wMv RX10 202 yX10_bringTimes cX10_bringTimes 5 (some .int) 10 3 := ⟨k_535, k_537, p_10, k_1, k_538, by decide +kernel, _, rfl, rfl⟩
theorem ml_531 : wMv RX10 198 yX5_readNight cX5_readNight 2 (some .int) 5 1 := ⟨k_531, k_532, k_533, k_3, k_534, by decide +kernel, _, rfl, rfl⟩
theorem fl_334 : wFl RX10 33 10 3 (tyX10 3) := ⟨RX10, TX10, 11, tyX10, clX10, by decide, k_334, rfl⟩
theorem ml_567 : wMv RX10 222 yX0_look cX0_look 4 none 0 1 := ⟨k_567, k_568, k_569, k_6, k_570, by decide +kernel, _, rfl, rfl⟩
theorem ml_577 : wMv RX10 225 yX0_pass cX0_pass 5 none 0 2 := ⟨k_577, k_578, k_579, k_6, k_580, by decide +kernel, _, rfl, rfl⟩
theorem fl_137 : wFl RX10 228 0 0 (tyX0 0) := ⟨RX0, TX0, 14, tyX0, clX0, by decide, k_137, rfl⟩
theorem fl_98 : wFl RX10 147 2 2 (tyX2 2) := ⟨RX2, TX2, 7, tyX2, clX2, by decide, k_98, rfl⟩
theorem ml_596 : wMv RX10 235 yX0_payInto cX0_payInto 4 none 0 2 := ⟨k_596, k_597, k_598, k_6, k_599, by decide +kernel, _, rfl, rfl⟩
theorem fl_112 : wFl RX10 239 2 5 (tyX2 5) := ⟨RX2, TX2, 7, tyX2, clX2, by decide, k_112, rfl⟩
theorem fp_112 : wFp RX10 239 2 5 .int := ⟨RX2, TX2, 7, tyX2, clX2, by decide, k_112, rfl, rfl⟩
theorem ml_604 : wMv RX10 242 yX0_evenPairs cX0_evenPairs 3 (some .int) 0 0 := ⟨k_604, k_605, k_606, k_6, k_607, by decide +kernel, _, rfl, rfl⟩
theorem ml_555 : wMv RX10 210 yX2_hasAll cX2_hasAll 2 (some .boolean) 2 1 := ⟨k_555, k_556, k_557, k_4, k_558, by decide +kernel, _, rfl, rfl⟩
theorem ml_563 : wMv RX10 213 yX10_letWeekPass cX10_letWeekPass 3 (some .int) 10 2 := ⟨k_563, k_565, p_11, k_1, k_566, by decide +kernel, _, rfl, rfl⟩
theorem fl_151 : wFl RX10 216 0 7 (tyX0 7) := ⟨RX0, TX0, 14, tyX0, clX0, by decide, k_151, rfl⟩
theorem ml_608 : wMv RX10 219 yX3_add cX3_add 2 none 3 1 := ⟨k_608, k_548, k_549, k_9, k_550, by decide +kernel, _, rfl, rfl⟩
theorem fl_302 : wFl RX10 245 4 0 (tyX4 0) := ⟨RX4, TX4, 3, tyX4, clX4, by decide, k_302, rfl⟩
theorem ml_617 : wMv RX10 246 yX4_goBack cX4_goBack 2 none 4 1 := ⟨k_617, k_618, k_619, k_10, k_620, by decide +kernel, _, rfl, rfl⟩
theorem ml_642 : wMv RX10 252 yX3_clear cX3_clear 1 none 3 0 := ⟨k_642, k_544, k_545, k_9, k_546, by decide +kernel, _, rfl, rfl⟩
theorem fl_143 : wFl RX10 253 0 3 (tyX0 3) := ⟨RX0, TX0, 14, tyX0, clX0, by decide, k_143, rfl⟩
theorem fl_145 : wFl RX10 256 0 4 (tyX0 4) := ⟨RX0, TX0, 14, tyX0, clX0, by decide, k_145, rfl⟩
theorem ml_633 : wMv RX10 144 yX2_evenWith cX2_evenWith 4 (some .int) 2 1 := ⟨k_633, k_634, k_635, k_4, k_636, by decide +kernel, _, rfl, rfl⟩
theorem ml_629 : wMv RX10 249 yX0_firstEven cX0_firstEven 2 (some .int) 0 0 := ⟨k_629, k_630, k_631, k_6, k_632, by decide +kernel, _, rfl, rfl⟩
theorem fl_335 : wFl RX10 40 10 4 (tyX10 4) := ⟨RX10, TX10, 11, tyX10, clX10, by decide, k_335, rfl⟩
theorem ml_655 : wMv RX10 273 yX6_prepare cX6_prepare 4 none 6 1 := ⟨k_655, k_656, k_657, k_7, k_658, by decide +kernel, _, rfl, rfl⟩
theorem ml_651 : wMv RX10 262 yX10_prepareSearch cX10_prepareSearch 1 none 10 0 := ⟨k_651, k_653, p_16, k_1, k_654, by decide +kernel, _, rfl, rfl⟩
theorem ml_660 : wMv RX10 265 yX6_firstSuch cX6_firstSuch 5 (some .int) 6 3 := ⟨k_660, k_661, k_662, k_7, k_663, by decide +kernel, _, rfl, rfl⟩
theorem ml_703 : wMv RX10 269 yX6_tellWay cX6_tellWay 6 (some .int) 6 2 := ⟨k_703, k_704, k_705, k_7, k_706, by decide +kernel, _, rfl, rfl⟩
theorem ml_647 : wMv RX10 259 yX10_fewestSuch cX10_fewestSuch 4 (some .int) 10 2 := ⟨k_647, k_649, p_15, k_1, k_650, by decide +kernel, _, rfl, rfl⟩
theorem fl_197 : wFl RX10 284 6 1 (tyX6 1) := ⟨RX6, TX6, 11, tyX6, clX6, by decide, k_197, rfl⟩
theorem fl_195 : wFl RX10 287 6 0 (tyX6 0) := ⟨RX6, TX6, 11, tyX6, clX6, by decide, k_195, rfl⟩
theorem ml_730 : wMv RX10 291 yX0_unpack cX0_unpack 4 none 0 1 := ⟨k_730, k_695, k_696, k_6, k_697, by decide +kernel, _, rfl, rfl⟩
theorem ml_725 : wMv RX10 276 yX0_pack cX0_pack 4 (some .long) 0 0 := ⟨k_725, k_665, k_666, k_6, k_667, by decide +kernel, _, rfl, rfl⟩
theorem ml_726 : wMv RX10 280 yX6_findWithin cX6_findWithin 8 (some .boolean) 6 2 := ⟨k_726, k_727, k_728, k_7, k_729, by decide +kernel, _, rfl, rfl⟩
theorem ml_735 : wMv RX10 295 yX2_bestFor cX2_bestFor 5 (some .int) 2 1 := ⟨k_735, k_736, k_737, k_4, k_738, by decide +kernel, _, rfl, rfl⟩
theorem ml_752 : wMv RX10 298 yX2_evensAfter cX2_evensAfter 4 (some .int) 2 2 := ⟨k_752, k_740, k_741, k_4, k_742, by decide +kernel, _, rfl, rfl⟩
theorem ml_757 : wMv RX10 301 yX10_carryRound cX10_carryRound 4 (some .boolean) 10 0 := ⟨k_757, k_759, p_24, k_1, k_760, by decide +kernel, _, rfl, rfl⟩
theorem ml_769 : wMv RX10 305 yX2_isFree cX2_isFree 4 (some .boolean) 2 2 := ⟨k_769, k_770, k_771, k_4, k_772, by decide +kernel, _, rfl, rfl⟩
theorem ml_765 : wMv RX10 140 yX2_touching cX2_touching 4 (some .int) 2 1 := ⟨k_765, k_766, k_767, k_4, k_768, by decide +kernel, _, rfl, rfl⟩
theorem fl_336 : wFl RX10 47 10 5 (tyX10 5) := ⟨RX10, TX10, 11, tyX10, clX10, by decide, k_336, rfl⟩
theorem fl_242 : wFl RX10 315 1 2 (tyX1 2) := ⟨RX1, TX1, 4, tyX1, clX1, by decide, k_242, rfl⟩
theorem fl_238 : wFl RX10 316 1 0 (tyX1 0) := ⟨RX1, TX1, 4, tyX1, clX1, by decide, k_238, rfl⟩
theorem ml_781 : wMv RX10 308 yX1_look cX1_look 3 none 1 1 := ⟨k_781, k_782, k_783, k_8, k_784, by decide +kernel, _, rfl, rfl⟩
theorem ml_786 : wMv RX10 309 yX1_paintAll cX1_paintAll 2 (some .int) 1 0 := ⟨k_786, k_787, k_788, k_8, k_789, by decide +kernel, _, rfl, rfl⟩
theorem ml_798 : wMv RX10 312 yX10_tellColours cX10_tellColours 3 none 10 1 := ⟨k_798, k_800, p_26, k_1, k_801, by decide +kernel, _, rfl, rfl⟩
theorem ml_806 : wMv RX10 319 yX1_largestKnot cX1_largestKnot 3 (some .int) 1 0 := ⟨k_806, k_807, k_808, k_8, k_809, by decide +kernel, _, rfl, rfl⟩
theorem ml_815 : wMs RX10 322 yJ6_bitCount_0f7a4 cJ6_bitCount_0f7a4 1 (some .int) 1 := ⟨k_815, k_745, k_20, k_746, by decide +kernel⟩
theorem ml_828 : wMv RX10 327 yX0_lasting cX0_lasting 2 (some .int) 0 0 := ⟨k_828, k_829, k_830, k_6, k_831, by decide +kernel, _, rfl, rfl⟩
theorem ml_834 : wMs RX10 330 yX10_weeksTold cX10_weeksTold 1 (some .int) 1 := ⟨k_834, k_835, k_1, k_836, by decide +kernel⟩
theorem fl_153 : wFl RX10 333 0 8 (tyX0 8) := ⟨RX0, TX0, 14, tyX0, clX0, by decide, k_153, rfl⟩
theorem ml_854 : wMv RX10 341 yX6_stepsTo cX6_stepsTo 4 (some .int) 6 1 := ⟨k_854, k_855, k_856, k_7, k_857, by decide +kernel, _, rfl, rfl⟩
theorem ml_849 : wMv RX10 337 yX6_firstLawfulOnSunday cX6_firstLawfulOnSunday 3 (some .int) 6 1 := ⟨k_849, k_850, k_851, k_7, k_852, by decide +kernel, _, rfl, rfl⟩
theorem ml_875 : wMv RX10 350 yX1_smallestCover cX1_smallestCover 3 (some .int) 1 0 := ⟨k_875, k_876, k_877, k_8, k_878, by decide +kernel, _, rfl, rfl⟩
theorem ml_883 : wMv RX10 353 yX1_pairs cX1_pairs 3 (some .int) 1 0 := ⟨k_883, k_884, k_885, k_8, k_886, by decide +kernel, _, rfl, rfl⟩
theorem ml_867 : wMv RX10 346 yX0_markEven cX0_markEven 3 none 0 1 := ⟨k_867, k_868, k_869, k_6, k_870, by decide +kernel, _, rfl, rfl⟩
theorem ml_862 : wMv RX10 344 yX1_clear cX1_clear 2 none 1 1 := ⟨k_862, k_863, k_864, k_8, k_865, by decide +kernel, _, rfl, rfl⟩
theorem ml_891 : wMv RX10 356 yX2_everyone cX2_everyone 1 (some .int) 2 0 := ⟨k_891, k_560, k_561, k_4, k_562, by decide +kernel, _, rfl, rfl⟩
theorem ml_892 : wMv RX10 359 yX0_allAlike cX0_allAlike 2 (some .boolean) 0 0 := ⟨k_892, k_893, k_894, k_6, k_895, by decide +kernel, _, rfl, rfl⟩
theorem ml_905 : wMv RX10 365 yX0_isEven cX0_isEven 2 (some .boolean) 0 1 := ⟨k_905, k_601, k_602, k_6, k_603, by decide +kernel, _, rfl, rfl⟩
theorem ml_900 : wMv RX10 362 yX0_pairOf cX0_pairOf 6 (some .int) 0 2 := ⟨k_900, k_901, k_902, k_6, k_903, by decide +kernel, _, rfl, rfl⟩
theorem fl_141 : wFl RX10 371 0 2 (tyX0 2) := ⟨RX0, TX0, 14, tyX0, clX0, by decide, k_141, rfl⟩
theorem ml_910 : wMv RX10 368 yX0_clearPaid cX0_clearPaid 1 none 0 0 := ⟨k_910, k_911, k_912, k_6, k_913, by decide +kernel, _, rfl, rfl⟩
theorem ml_918 : wMv RX10 372 yX10_evenAfterRain cX10_evenAfterRain 3 (some .int) 10 2 := ⟨k_918, k_920, p_29, k_1, k_921, by decide +kernel, _, rfl, rfl⟩
theorem fl_149 : wFl RX10 375 0 6 (tyX0 6) := ⟨RX0, TX0, 14, tyX0, clX0, by decide, k_149, rfl⟩
theorem fl_147 : wFl RX10 377 0 5 (tyX0 5) := ⟨RX0, TX0, 14, tyX0, clX0, by decide, k_147, rfl⟩
theorem ml_926 : wMv RX10 380 yX0_rewind cX0_rewind 2 none 0 1 := ⟨k_926, k_573, k_574, k_6, k_575, by decide +kernel, _, rfl, rfl⟩
theorem ml_939 : wMv RX10 389 yX1_nearer cX1_nearer 4 (some .int) 1 2 := ⟨k_939, k_940, k_941, k_8, k_942, by decide +kernel, _, rfl, rfl⟩
theorem ml_931 : wMv RX10 383 yX1_measureTo cX1_measureTo 4 none 1 1 := ⟨k_931, k_932, k_933, k_8, k_934, by decide +kernel, _, rfl, rfl⟩
theorem fl_240 : wFl RX10 386 1 1 (tyX1 1) := ⟨RX1, TX1, 4, tyX1, clX1, by decide, k_240, rfl⟩
theorem fl_139 : wFl RX10 392 0 1 (tyX0 1) := ⟨RX0, TX0, 14, tyX0, clX0, by decide, k_139, rfl⟩
theorem fl_340 : wFl RX10 74 10 9 (tyX10 9) := ⟨RX10, TX10, 11, tyX10, clX10, by decide, k_340, rfl⟩
theorem fl_320 : wFl RX10 393 7 0 (tyX7 0) := ⟨RX7, TX7, 3, tyX7, clX7, by decide, k_320, rfl⟩
theorem ml_951 : wMv RX10 394 yX7_add cX7_add 3 none 7 2 := ⟨k_951, k_952, k_953, k_12, k_954, by decide +kernel, _, rfl, rfl⟩
theorem fp_320 : wFp RX10 393 7 0 .int := ⟨RX7, TX7, 3, tyX7, clX7, by decide, k_320, rfl, rfl⟩
theorem ml_963 : wMv RX10 396 yX7_holdFor cX7_holdFor 5 (some .boolean) 7 1 := ⟨k_963, k_964, k_965, k_12, k_966, by decide +kernel, _, rfl, rfl⟩
theorem ml_978 : wMv RX10 400 yX10_wouldExplain cX10_wouldExplain 3 (some .boolean) 10 2 := ⟨k_978, k_980, p_31, k_1, k_981, by decide +kernel, _, rfl, rfl⟩
theorem fl_341 : wFl RX10 78 10 10 (tyX10 10) := ⟨RX10, TX10, 11, tyX10, clX10, by decide, k_341, rfl⟩
theorem ml_990 : wMv RX10 409 yX10_showWay cX10_showWay 3 none 10 1 := ⟨k_990, k_992, p_33, k_1, k_993, by decide +kernel, _, rfl, rfl⟩
theorem ml_994 : wMv RX10 406 yX10_mostAlike cX10_mostAlike 7 (some .int) 10 2 := ⟨k_994, k_996, p_34, k_1, k_997, by decide +kernel, _, rfl, rfl⟩
theorem ml_986 : wMv RX10 403 yX10_showAllWays cX10_showAllWays 3 (some .int) 10 0 := ⟨k_986, k_988, p_32, k_1, k_989, by decide +kernel, _, rfl, rfl⟩
theorem fl_339 : wFl RX10 67 10 8 (tyX10 8) := ⟨RX10, TX10, 11, tyX10, clX10, by decide, k_339, rfl⟩
theorem ml_1006 : wMv RX10 412 yX8_take cX8_take 2 none 8 1 := ⟨k_1006, k_512, k_513, k_11, k_514, by decide +kernel, _, rfl, rfl⟩
theorem fl_287 : wFl RX10 415 8 5 (tyX8 5) := ⟨RX8, TX8, 6, tyX8, clX8, by decide, k_287, rfl⟩
theorem ml_1011 : wMv RX10 416 yX8_giveWeeks cX8_giveWeeks 2 none 8 1 := ⟨k_1011, k_622, k_623, k_11, k_624, by decide +kernel, _, rfl, rfl⟩
theorem ml_1012 : wMv RX10 419 yX8_giveSpringsAndLaw cX8_giveSpringsAndLaw 2 none 8 1 := ⟨k_1012, k_1013, k_1014, k_11, k_1015, by decide +kernel, _, rfl, rfl⟩
theorem ml_1020 : wMv RX10 422 yX2_allPaid cX2_allPaid 3 (some .int) 2 0 := ⟨k_1020, k_1021, k_1022, k_4, k_1023, by decide +kernel, _, rfl, rfl⟩
theorem ml_1024 : wMv RX10 425 yX2_touchingPairs cX2_touchingPairs 3 (some .int) 2 0 := ⟨k_1024, k_1025, k_1026, k_4, k_1027, by decide +kernel, _, rfl, rfl⟩
theorem fl_262 : wFl RX10 428 3 1 (tyX3 1) := ⟨RX3, TX3, 2, tyX3, clX3, by decide, k_262, rfl⟩
theorem fl_1518 : wFl RX11 3 11 0 (tyX11 0) := ⟨RX11, TX11, 49, tyX11, clX11, by decide, k_1518, rfl⟩
theorem fp_1518 : wFp RX11 3 11 0 .int := ⟨RX11, TX11, 49, tyX11, clX11, by decide, k_1518, rfl, rfl⟩
theorem fl_1520 : wFl RX11 7 11 2 (tyX11 2) := ⟨RX11, TX11, 49, tyX11, clX11, by decide, k_1520, rfl⟩
theorem fl_1519 : wFl RX11 11 11 1 (tyX11 1) := ⟨RX11, TX11, 49, tyX11, clX11, by decide, k_1519, rfl⟩
theorem fp_1519 : wFp RX11 11 11 1 .int := ⟨RX11, TX11, 49, tyX11, clX11, by decide, k_1519, rfl, rfl⟩
theorem fl_1521 : wFl RX11 14 11 3 (tyX11 3) := ⟨RX11, TX11, 49, tyX11, clX11, by decide, k_1521, rfl⟩
theorem ml_1124 : wMs RX11 17 yX11_in cX11_in 6 (some .boolean) 3 := ⟨k_1124, k_1125, k_13, k_1126, by decide +kernel⟩
theorem ml_1170 : wMv RX11 21 yX11_isFarm cX11_isFarm 2 (some .boolean) 11 1 := ⟨k_1170, k_1172, p_43, k_13, k_1173, by decide +kernel, _, rfl, rfl⟩
theorem fl_1530 : wFl RX11 25 11 12 (tyX11 12) := ⟨RX11, TX11, 49, tyX11, clX11, by decide, k_1530, rfl⟩
theorem fp_1530 : wFp RX11 25 11 12 .int := ⟨RX11, TX11, 49, tyX11, clX11, by decide, k_1530, rfl, rfl⟩
theorem fl_1529 : wFl RX11 28 11 11 (tyX11 11) := ⟨RX11, TX11, 49, tyX11, clX11, by decide, k_1529, rfl⟩
theorem fp_1531 : wFp RX11 31 11 13 .int := ⟨RX11, TX11, 49, tyX11, clX11, by decide, k_1531, rfl, rfl⟩
theorem fp_1532 : wFp RX11 40 11 14 .int := ⟨RX11, TX11, 49, tyX11, clX11, by decide, k_1532, rfl, rfl⟩
theorem fl_1531 : wFl RX11 31 11 13 (tyX11 13) := ⟨RX11, TX11, 49, tyX11, clX11, by decide, k_1531, rfl⟩
theorem ml_1151 : wMs RX11 43 yX11_flag cX11_flag 1 (some .int) 1 := ⟨k_1151, k_1152, k_13, k_1153, by decide +kernel⟩
theorem fl_1532 : wFl RX11 40 11 14 (tyX11 14) := ⟨RX11, TX11, 49, tyX11, clX11, by decide, k_1532, rfl⟩
theorem fl_1534 : wFl RX11 59 11 16 (tyX11 16) := ⟨RX11, TX11, 49, tyX11, clX11, by decide, k_1534, rfl⟩
theorem fl_1533 : wFl RX11 49 11 15 (tyX11 15) := ⟨RX11, TX11, 49, tyX11, clX11, by decide, k_1533, rfl⟩
theorem fl_1535 : wFl RX11 62 11 17 (tyX11 17) := ⟨RX11, TX11, 49, tyX11, clX11, by decide, k_1535, rfl⟩
theorem fl_1536 : wFl RX11 65 11 18 (tyX11 18) := ⟨RX11, TX11, 49, tyX11, clX11, by decide, k_1536, rfl⟩
theorem fp_1533 : wFp RX11 49 11 15 .int := ⟨RX11, TX11, 49, tyX11, clX11, by decide, k_1533, rfl, rfl⟩
theorem ml_1147 : wMv RX11 56 yX11_takes cX11_takes 3 (some .boolean) 11 1 := ⟨k_1147, k_1149, p_39, k_13, k_1150, by decide +kernel, _, rfl, rfl⟩
theorem ml_1143 : wMv RX11 52 yX11_digit cX11_digit 2 (some .int) 11 1 := ⟨k_1143, k_1145, p_38, k_13, k_1146, by decide +kernel, _, rfl, rfl⟩
theorem fl_1537 : wFl RX11 71 11 19 (tyX11 19) := ⟨RX11, TX11, 49, tyX11, clX11, by decide, k_1537, rfl⟩
theorem ml_1158 : wMv RX11 68 yX11_farmBut cX11_farmBut 2 (some .int) 11 1 := ⟨k_1158, k_1160, p_41, k_13, k_1161, by decide +kernel, _, rfl, rfl⟩
theorem ml_1154 : wMv RX11 89 yX11_readsTouch cX11_readsTouch 4 (some .boolean) 11 0 := ⟨k_1154, k_1156, p_40, k_13, k_1157, by decide +kernel, _, rfl, rfl⟩
theorem fl_1524 : wFl RX11 80 11 6 (tyX11 6) := ⟨RX11, TX11, 49, tyX11, clX11, by decide, k_1524, rfl⟩
theorem fl_1526 : wFl RX11 102 11 8 (tyX11 8) := ⟨RX11, TX11, 49, tyX11, clX11, by decide, k_1526, rfl⟩
theorem fl_1523 : wFl RX11 99 11 5 (tyX11 5) := ⟨RX11, TX11, 49, tyX11, clX11, by decide, k_1523, rfl⟩
theorem fp_1538 : wFp RX11 105 11 20 .int := ⟨RX11, TX11, 49, tyX11, clX11, by decide, k_1538, rfl, rfl⟩
theorem fp_1521 : wFp RX11 14 11 3 .int := ⟨RX11, TX11, 49, tyX11, clX11, by decide, k_1521, rfl, rfl⟩
theorem fl_1538 : wFl RX11 105 11 20 (tyX11 20) := ⟨RX11, TX11, 49, tyX11, clX11, by decide, k_1538, rfl⟩
theorem fl_1525 : wFl RX11 77 11 7 (tyX11 7) := ⟨RX11, TX11, 49, tyX11, clX11, by decide, k_1525, rfl⟩
theorem fl_1522 : wFl RX11 96 11 4 (tyX11 4) := ⟨RX11, TX11, 49, tyX11, clX11, by decide, k_1522, rfl⟩
theorem ml_1162 : wMv RX11 92 yX11_faultOf cX11_faultOf 5 (some .int) 11 3 := ⟨k_1162, k_1164, p_42, k_13, k_1165, by decide +kernel, _, rfl, rfl⟩
theorem ml_1139 : wMv RX11 85 yX11_readsFarm cX11_readsFarm 4 (some .boolean) 11 0 := ⟨k_1139, k_1141, p_37, k_13, k_1142, by decide +kernel, _, rfl, rfl⟩
theorem ml_1131 : wMv RX11 74 yX11_begins cX11_begins 3 (some .int) 11 1 := ⟨k_1131, k_1133, p_36, k_13, k_1135, by decide +kernel, _, rfl, rfl⟩
theorem ml_1187 : wMs RX11 108 yX11_has cX11_has 2 (some .boolean) 2 := ⟨k_1187, k_1188, k_13, k_1189, by decide +kernel⟩
theorem fl_1527 : wFl RX11 115 11 9 (tyX11 9) := ⟨RX11, TX11, 49, tyX11, clX11, by decide, k_1527, rfl⟩
theorem ml_1183 : wMv RX11 118 yX11_isEven cX11_isEven 4 (some .boolean) 11 3 := ⟨k_1183, k_1185, p_46, k_13, k_1186, by decide +kernel, _, rfl, rfl⟩
theorem ml_1179 : wMv RX11 122 yX11_evenWith cX11_evenWith 5 (some .int) 11 2 := ⟨k_1179, k_1181, p_45, k_13, k_1182, by decide +kernel, _, rfl, rfl⟩
theorem ml_1288 : wMs RX11 126 yJ6_bitCount_0f7a4 cJ6_bitCount_0f7a4 1 (some .int) 1 := ⟨k_1288, k_745, k_20, k_746, by decide +kernel⟩
theorem ml_1175 : wMv RX11 133 yX11_refuse cX11_refuse 1 (some .int) 11 0 := ⟨k_1175, k_1177, p_44, k_13, k_1178, by decide +kernel, _, rfl, rfl⟩
theorem ml_1195 : wMv RX11 137 yX11_areTwo cX11_areTwo 3 (some .boolean) 11 2 := ⟨k_1195, k_1197, p_47, k_13, k_1198, by decide +kernel, _, rfl, rfl⟩
theorem ml_1205 : wMv RX11 147 yX11_touchBy cX11_touchBy 4 none 11 3 := ⟨k_1205, k_1207, p_48, k_13, k_1208, by decide +kernel, _, rfl, rfl⟩
theorem fl_1539 : wFl RX11 157 11 21 (tyX11 21) := ⟨RX11, TX11, 49, tyX11, clX11, by decide, k_1539, rfl⟩
theorem fl_1528 : wFl RX11 160 11 10 (tyX11 10) := ⟨RX11, TX11, 49, tyX11, clX11, by decide, k_1528, rfl⟩
theorem ml_1241 : wMv RX11 163 yX11_putsDown cX11_putsDown 3 none 11 1 := ⟨k_1241, k_1243, p_51, k_13, k_1244, by decide +kernel, _, rfl, rfl⟩
theorem fp_1528 : wFp RX11 160 11 10 .int := ⟨RX11, TX11, 49, tyX11, clX11, by decide, k_1528, rfl, rfl⟩
theorem ml_1233 : wMv RX11 167 yX11_canCarry cX11_canCarry 4 (some .boolean) 11 3 := ⟨k_1233, k_1235, p_49, k_13, k_1236, by decide +kernel, _, rfl, rfl⟩
theorem ml_1237 : wMv RX11 170 yX11_putsBy cX11_putsBy 1 none 11 0 := ⟨k_1237, k_1239, p_50, k_13, k_1240, by decide +kernel, _, rfl, rfl⟩
theorem ml_1245 : wMv RX11 174 yX11_carries cX11_carries 4 none 11 3 := ⟨k_1245, k_1247, p_52, k_13, k_1248, by decide +kernel, _, rfl, rfl⟩
theorem ml_1249 : wMv RX11 178 yX11_adds cX11_adds 2 none 11 0 := ⟨k_1249, k_1251, p_53, k_13, k_1252, by decide +kernel, _, rfl, rfl⟩
theorem fl_1543 : wFl RX11 188 11 25 (tyX11 25) := ⟨RX11, TX11, 49, tyX11, clX11, by decide, k_1543, rfl⟩
theorem fp_1543 : wFp RX11 188 11 25 .int := ⟨RX11, TX11, 49, tyX11, clX11, by decide, k_1543, rfl, rfl⟩
theorem fl_1542 : wFl RX11 194 11 24 (tyX11 24) := ⟨RX11, TX11, 49, tyX11, clX11, by decide, k_1542, rfl⟩
theorem fl_1540 : wFl RX11 185 11 22 (tyX11 22) := ⟨RX11, TX11, 49, tyX11, clX11, by decide, k_1540, rfl⟩
theorem fl_1541 : wFl RX11 191 11 23 (tyX11 23) := ⟨RX11, TX11, 49, tyX11, clX11, by decide, k_1541, rfl⟩
theorem ml_1263 : wMv RX11 200 yX11_enters cX11_enters 2 none 11 1 := ⟨k_1263, k_1265, p_55, k_13, k_1266, by decide +kernel, _, rfl, rfl⟩
theorem ml_1257 : wMv RX11 197 yX11_readsStep cX11_readsStep 1 (some .boolean) 11 0 := ⟨k_1257, k_1259, p_54, k_13, k_1260, by decide +kernel, _, rfl, rfl⟩
theorem fl_1544 : wFl RX11 203 11 26 (tyX11 26) := ⟨RX11, TX11, 49, tyX11, clX11, by decide, k_1544, rfl⟩
theorem ml_1284 : wMv RX11 206 yX11_seeps cX11_seeps 6 (some .int) 11 3 := ⟨k_1284, k_1286, p_59, k_13, k_1287, by decide +kernel, _, rfl, rfl⟩
theorem fl_1545 : wFl RX11 210 11 27 (tyX11 27) := ⟨RX11, TX11, 49, tyX11, clX11, by decide, k_1545, rfl⟩
theorem fp_1545 : wFp RX11 210 11 27 .int := ⟨RX11, TX11, 49, tyX11, clX11, by decide, k_1545, rfl, rfl⟩
theorem ml_1280 : wMv RX11 213 yX11_weekGoes cX11_weekGoes 8 none 11 3 := ⟨k_1280, k_1282, p_58, k_13, k_1283, by decide +kernel, _, rfl, rfl⟩
theorem ml_1272 : wMv RX11 218 yX11_areBits cX11_areBits 2 (some .boolean) 11 1 := ⟨k_1272, k_1274, p_56, k_13, k_1275, by decide +kernel, _, rfl, rfl⟩
theorem ml_1276 : wMv RX11 221 yX11_weekPays cX11_weekPays 6 (some .int) 11 2 := ⟨k_1276, k_1278, p_57, k_13, k_1279, by decide +kernel, _, rfl, rfl⟩
theorem ml_1289 : wMv RX11 224 yX11_evenPairs cX11_evenPairs 4 (some .int) 11 1 := ⟨k_1289, k_1291, p_60, k_13, k_1292, by decide +kernel, _, rfl, rfl⟩
theorem fl_1551 : wFl RX11 234 11 33 (tyX11 33) := ⟨RX11, TX11, 49, tyX11, clX11, by decide, k_1551, rfl⟩
theorem fl_1546 : wFl RX11 230 11 28 (tyX11 28) := ⟨RX11, TX11, 49, tyX11, clX11, by decide, k_1546, rfl⟩
theorem fl_1550 : wFl RX11 247 11 32 (tyX11 32) := ⟨RX11, TX11, 49, tyX11, clX11, by decide, k_1550, rfl⟩
theorem fl_1552 : wFl RX11 258 11 34 (tyX11 34) := ⟨RX11, TX11, 49, tyX11, clX11, by decide, k_1552, rfl⟩
theorem fp_1552 : wFp RX11 258 11 34 .int := ⟨RX11, TX11, 49, tyX11, clX11, by decide, k_1552, rfl, rfl⟩
theorem ml_1318 : wMv RX11 250 yX11_packed cX11_packed 5 (some .long) 11 1 := ⟨k_1318, k_1320, p_64, k_13, k_1321, by decide +kernel, _, rfl, rfl⟩
theorem ml_1322 : wMv RX11 254 yX11_slotOf cX11_slotOf 4 (some .int) 11 1 := ⟨k_1322, k_1324, p_65, k_13, k_1325, by decide +kernel, _, rfl, rfl⟩
theorem fp_1553 : wFp RX11 261 11 35 .boolean := ⟨RX11, TX11, 49, tyX11, clX11, by decide, k_1553, rfl, rfl⟩
theorem fl_1547 : wFl RX11 265 11 29 (tyX11 29) := ⟨RX11, TX11, 49, tyX11, clX11, by decide, k_1547, rfl⟩
theorem fl_1548 : wFl RX11 268 11 30 (tyX11 30) := ⟨RX11, TX11, 49, tyX11, clX11, by decide, k_1548, rfl⟩
theorem fl_1549 : wFl RX11 271 11 31 (tyX11 31) := ⟨RX11, TX11, 49, tyX11, clX11, by decide, k_1549, rfl⟩
theorem ml_1314 : wMv RX11 274 yX11_finds cX11_finds 8 none 11 4 := ⟨k_1314, k_1316, p_63, k_13, k_1317, by decide +kernel, _, rfl, rfl⟩
theorem fl_1553 : wFl RX11 261 11 35 (tyX11 35) := ⟨RX11, TX11, 49, tyX11, clX11, by decide, k_1553, rfl⟩
theorem ml_1333 : wMv RX11 278 yX11_unpacks cX11_unpacks 5 none 11 1 := ⟨k_1333, k_1335, p_67, k_13, k_1336, by decide +kernel, _, rfl, rfl⟩
theorem ml_1329 : wMv RX11 285 yX11_findsFrom cX11_findsFrom 5 none 11 2 := ⟨k_1329, k_1331, p_66, k_13, k_1332, by decide +kernel, _, rfl, rfl⟩
theorem ml_1310 : wMv RX11 281 yX11_findsFirst cX11_findsFirst 3 none 11 1 := ⟨k_1310, k_1312, p_62, k_13, k_1313, by decide +kernel, _, rfl, rfl⟩
theorem fl_1554 : wFl RX11 289 11 36 (tyX11 36) := ⟨RX11, TX11, 49, tyX11, clX11, by decide, k_1554, rfl⟩
theorem ml_1306 : wMv RX11 292 yX11_findsAll cX11_findsAll 4 (some .boolean) 11 2 := ⟨k_1306, k_1308, p_61, k_13, k_1309, by decide +kernel, _, rfl, rfl⟩
theorem ml_1347 : wMv RX11 297 yX11_tellsWay cX11_tellsWay 5 (some .int) 11 1 := ⟨k_1347, k_1349, p_69, k_13, k_1350, by decide +kernel, _, rfl, rfl⟩
theorem ml_1343 : wMv RX11 300 yX11_fewestTo cX11_fewestTo 7 (some .int) 11 2 := ⟨k_1343, k_1345, p_68, k_13, k_1346, by decide +kernel, _, rfl, rfl⟩
theorem fl_1555 : wFl RX11 303 11 37 (tyX11 37) := ⟨RX11, TX11, 49, tyX11, clX11, by decide, k_1555, rfl⟩
theorem fp_1555 : wFp RX11 303 11 37 .int := ⟨RX11, TX11, 49, tyX11, clX11, by decide, k_1555, rfl, rfl⟩
theorem ml_1359 : wMv RX11 306 yX11_bestFor cX11_bestFor 5 (some .int) 11 1 := ⟨k_1359, k_1361, p_70, k_13, k_1362, by decide +kernel, _, rfl, rfl⟩
theorem fl_1556 : wFl RX11 311 11 38 (tyX11 38) := ⟨RX11, TX11, 49, tyX11, clX11, by decide, k_1556, rfl⟩
theorem ml_1380 : wMv RX11 314 yX11_paints cX11_paints 7 (some .boolean) 11 3 := ⟨k_1380, k_1382, p_72, k_13, k_1383, by decide +kernel, _, rfl, rfl⟩
theorem ml_1376 : wMv RX11 318 yX11_paintsAll cX11_paintsAll 2 (some .int) 11 0 := ⟨k_1376, k_1378, p_71, k_13, k_1379, by decide +kernel, _, rfl, rfl⟩
theorem fl_1557 : wFl RX11 321 11 39 (tyX11 39) := ⟨RX11, TX11, 49, tyX11, clX11, by decide, k_1557, rfl⟩
theorem ml_1404 : wMv RX11 324 yX11_startsThen cX11_startsThen 2 none 11 0 := ⟨k_1404, k_1406, p_74, k_13, k_1407, by decide +kernel, _, rfl, rfl⟩
theorem ml_1400 : wMv RX11 327 yX11_lastsNow cX11_lastsNow 2 (some .int) 11 0 := ⟨k_1400, k_1402, p_73, k_13, k_1403, by decide +kernel, _, rfl, rfl⟩
theorem ml_1412 : wMs RX11 332 yX11_isHundred cX11_isHundred 1 (some .boolean) 1 := ⟨k_1412, k_1413, k_13, k_1414, by decide +kernel⟩
theorem fl_1558 : wFl RX11 337 11 40 (tyX11 40) := ⟨RX11, TX11, 49, tyX11, clX11, by decide, k_1558, rfl⟩
theorem fl_1559 : wFl RX11 340 11 41 (tyX11 41) := ⟨RX11, TX11, 49, tyX11, clX11, by decide, k_1559, rfl⟩
theorem fl_1560 : wFl RX11 343 11 42 (tyX11 42) := ⟨RX11, TX11, 49, tyX11, clX11, by decide, k_1560, rfl⟩
theorem ml_1457 : wMs RX11 346 yX11_asMany cX11_asMany 1 (some .int) 1 := ⟨k_1457, k_1458, k_13, k_1459, by decide +kernel⟩
theorem fl_1561 : wFl RX11 351 11 43 (tyX11 43) := ⟨RX11, TX11, 49, tyX11, clX11, by decide, k_1561, rfl⟩
theorem fl_1562 : wFl RX11 354 11 44 (tyX11 44) := ⟨RX11, TX11, 49, tyX11, clX11, by decide, k_1562, rfl⟩
theorem fl_1563 : wFl RX11 357 11 45 (tyX11 45) := ⟨RX11, TX11, 49, tyX11, clX11, by decide, k_1563, rfl⟩
theorem fp_1561 : wFp RX11 351 11 43 .int := ⟨RX11, TX11, 49, tyX11, clX11, by decide, k_1561, rfl, rfl⟩
theorem ml_1473 : wMv RX11 360 yX11_isSo cX11_isSo 4 (some .boolean) 11 0 := ⟨k_1473, k_1475, p_75, k_13, k_1476, by decide +kernel, _, rfl, rfl⟩
theorem fl_1564 : wFl RX11 363 11 46 (tyX11 46) := ⟨RX11, TX11, 49, tyX11, clX11, by decide, k_1564, rfl⟩
theorem fl_1566 : wFl RX11 370 11 48 (tyX11 48) := ⟨RX11, TX11, 49, tyX11, clX11, by decide, k_1566, rfl⟩
theorem fl_1565 : wFl RX11 366 11 47 (tyX11 47) := ⟨RX11, TX11, 49, tyX11, clX11, by decide, k_1565, rfl⟩
theorem ml_1505 : wMv RX11 373 yX11_sumOf cX11_sumOf 4 (some .int) 11 1 := ⟨k_1505, k_1507, p_76, k_13, k_1508, by decide +kernel, _, rfl, rfl⟩
theorem ml_1509 : wMv RX11 376 yX11_pairsThere cX11_pairsThere 3 (some .int) 11 0 := ⟨k_1509, k_1511, p_77, k_13, k_1512, by decide +kernel, _, rfl, rfl⟩
theorem wb_alen {G : wG} {X : wX} {cc : ByteArray} {own : String} {ret : Option FieldType} {d pc : Nat} {loc : List (Nat × Value)} {st : List Value} {s : wM} {k n r t : Nat} (hX : wOK G X cc own ret d) (hk : wSh[k]? = some (.inl (.int, n, r, t))) (hd : decode cc pc = .ok (.arraylength, 1)) {pq : Nat} (hp : pc + 1 = pq) (kk : WB G X pq loc (.int (Int32.ofNat n) :: st) s) : WB G X pc loc (.ref (G.1 k) :: st) s := by
  obtain ⟨p, l, e, R, s0, m, args, below, meth, c, Q, nL, cells, slots⟩ := X
  obtain ⟨hx, hb, hr, hml, hown, hT, hK, hlk, hG, hfr, hlo, hce, hsl⟩ := hX
  intro H locs ls hP hS hl
  subst hp
  exact va_alen hx hb hK hP k 0 (wL_at hk) (ty := .int) rfl (v := Int32.ofNat n) rfl hd (kk H locs ls hP hS hl)
theorem wb_alenL {G : wG} {X : wX} {cc : ByteArray} {own : String} {ret : Option FieldType} {d pc : Nat} {loc : List (Nat × Value)} {st : List Value} {s : wM} {k n r t : Nat} (hX : wOK G X cc own ret d) (hk : wSh[k]? = some (.inl (.long, n, r, t))) (hd : decode cc pc = .ok (.arraylength, 1)) {pq : Nat} (hp : pc + 1 = pq) (kk : WB G X pq loc (.int (Int32.ofNat n) :: st) s) : WB G X pc loc (.ref (G.1 k) :: st) s := by
  obtain ⟨p, l, e, R, s0, m, args, below, meth, c, Q, nL, cells, slots⟩ := X
  obtain ⟨hx, hb, hr, hml, hown, hT, hK, hlk, hG, hfr, hlo, hce, hsl⟩ := hX
  intro H locs ls hP hS hl
  subst hp
  exact va_alen hx hb hK hP k 1 (wL_at hk) (ty := .long) rfl (v := Int32.ofNat n) rfl hd (kk H locs ls hP hS hl)
theorem wFillI_0 (s : wM) (a : Nat) (v : Int32) : wFillI s a 0 v = s := by simp [wFillI]
theorem wFillL_0 (s : wM) (a : Nat) (v : Int64) : wFillL s a 0 v = s := by simp [wFillL]
theorem wFillI_succ (s : wM) (a i : Nat) (v : Int32) : wsI (wFillI s a i v) a i v = wFillI s a (i + 1) v := by
  simp only [wsI, wFillI, Prod.mk.injEq, and_true]
  funext x y
  by_cases h1 : x = a <;> by_cases h2 : y = i <;> by_cases h3 : y < i <;> simp [h1, h2, h3] <;> omega
theorem wFillL_succ (s : wM) (a i : Nat) (v : Int64) : wsL (wFillL s a i v) a i v = wFillL s a (i + 1) v := by
  simp only [wsL, wFillL, Prod.mk.injEq, true_and]
  funext x y
  by_cases h1 : x = a <;> by_cases h2 : y = i <;> by_cases h3 : y < i <;> simp [h1, h2, h3] <;> omega
set_option maxHeartbeats 4000000 in
theorem tFillI_L {G : wG} {X : wX} {s : wM} {a n r t : Nat} {v : Int32} (hk : wSh[a]? = some (.inl (.int, n, r, t))) (hn : n < 2 ^ 31) (hX : wOK G X cJ7_fill_53178 RJ7 none 0) (hQ : wRt G X (wQv G (wFillI s a n v))) (hN : wNl X = 4) : ∀ (m i : Nat), i + m = n → WB G X 5 [(0, .ref (G.1 a)), (1, .int v), (2, .int (nI i)), (3, .int (Int32.ofNat n))] [] (wFillI s a i v) := by
  intro m
  induction m with
  | zero =>
    intro i hi
    have e : i = n := by omega
    subst e
    refine wb_iload_n 2 hX dJ7_fill_53178_5 rfl (pq := 6) rfl ?_
    refine wb_iload_n 3 hX dJ7_fill_53178_6 rfl (pq := 7) rfl ?_
    refine wb_icmp_ge (tgt := 20) hX dJ7_fill_53178_7 (by decide) (fun _ => ?_) (pq := 10) rfl (fun c => absurd (nI_le (Nat.le_refl i) hn) c)
    exact wb_vret hX hQ rfl dJ7_fill_53178_20
  | succ m ih =>
    intro i hi
    refine wb_iload_n 2 hX dJ7_fill_53178_5 rfl (pq := 6) rfl ?_
    refine wb_iload_n 3 hX dJ7_fill_53178_6 rfl (pq := 7) rfl ?_
    refine wb_icmp_ge (tgt := 20) hX dJ7_fill_53178_7 (by decide) (fun c => absurd c (nI_ge (by omega) hn)) (pq := 10) rfl (fun _ => ?_)
    refine wb_aload_n 0 hX dJ7_fill_53178_10 rfl (pq := 11) rfl ?_
    refine wb_iload_n 2 hX dJ7_fill_53178_11 rfl (pq := 12) rfl ?_
    refine wb_iload_n 1 hX dJ7_fill_53178_12 rfl (pq := 13) rfl ?_
    refine wb_iast hX hk (vp_in_nI (by omega) hn) dJ7_fill_53178_13 (pq := 14) rfl ?_
    rw [nI_clamp (by omega), wFillI_succ]
    refine wb_iinc (v := nI (i + 1)) (loc' := [(2, .int (nI (i + 1))), (0, .ref (G.1 a)), (1, .int v), (3, .int (Int32.ofNat n))]) 2 hX hN dJ7_fill_53178_14 rfl (nI_1 i) (by decide) rfl (pq := 17) rfl ?_
    refine wb_goto (tgt := 5) hX dJ7_fill_53178_17 (by decide) ?_
    refine wb_sub [1, 2, 0, 3] (loc' := [(0, .ref (G.1 a)), (1, .int v), (2, .int (nI (i + 1))), (3, .int (Int32.ofNat n))]) rfl ?_
    exact ih (i + 1) (by omega)
set_option maxHeartbeats 4000000 in
theorem tFillI {l : Launch} {G : wG} {s : wM} {a n r t : Nat} {v : Int32} (hk : wSh[a]? = some (.inl (.int, n, r, t))) (hn : n < 2 ^ 31 := by decide) : wMet l G yJ7_fill_53178 cJ7_fill_53178 4 none 0 [.ref (G.1 a), .int v] s (wQv G (wFillI s a n v)) := by
  refine wMet_of (own := RJ7) (by decide +kernel) rfl (Nat.le_of_ble_eq_true rfl) ?_
  intro X hX hQ hN hl
  show WB G X 0 [(0, .ref (G.1 a)), (1, .int v)] [] s
  refine wb_iconst (v := iI 0) hX dJ7_fill_53178_0 rfl (pq := 1) rfl ?_
  refine wb_istore_n (loc' := [(2, .int (iI 0)), (0, .ref (G.1 a)), (1, .int v)]) hX hN dJ7_fill_53178_1 (by decide) rfl (pq := 2) rfl ?_
  refine wb_aload_n 1 hX dJ7_fill_53178_2 rfl (pq := 3) rfl ?_
  refine wb_alen hX hk dJ7_fill_53178_3 (pq := 4) rfl ?_
  refine wb_istore_n (loc' := [(3, .int (Int32.ofNat n)), (2, .int (iI 0)), (0, .ref (G.1 a)), (1, .int v)]) hX hN dJ7_fill_53178_4 (by decide) rfl (pq := 5) rfl ?_
  refine wb_sub [2, 3, 1, 0] (loc' := [(0, .ref (G.1 a)), (1, .int v), (2, .int (iI 0)), (3, .int (Int32.ofNat n))]) rfl ?_
  have h := tFillI_L (s := s) (v := v) hk hn hX hQ hN n 0 (by omega)
  rw [wFillI_0] at h
  exact h
set_option maxHeartbeats 4000000 in
theorem tFillL_L {G : wG} {X : wX} {s : wM} {a n r t : Nat} {v : Int64} (hk : wSh[a]? = some (.inl (.long, n, r, t))) (hn : n < 2 ^ 31) (hX : wOK G X cJ7_fill_d0a16 RJ7 none 0) (hQ : wRt G X (wQv G (wFillL s a n v))) (hN : wNl X = 5) : ∀ (m i : Nat), i + m = n → WB G X 6 [(0, .ref (G.1 a)), (1, .long v), (3, .int (nI i)), (4, .int (Int32.ofNat n))] [] (wFillL s a i v) := by
  intro m
  induction m with
  | zero =>
    intro i hi
    have e : i = n := by omega
    subst e
    refine wb_iload_n 2 hX dJ7_fill_d0a16_6 rfl (pq := 7) rfl ?_
    refine wb_iload 3 hX dJ7_fill_d0a16_7 rfl (pq := 9) rfl ?_
    refine wb_icmp_ge (tgt := 22) hX dJ7_fill_d0a16_9 (by decide) (fun _ => ?_) (pq := 12) rfl (fun c => absurd (nI_le (Nat.le_refl i) hn) c)
    exact wb_vret hX hQ rfl dJ7_fill_d0a16_22
  | succ m ih =>
    intro i hi
    refine wb_iload_n 2 hX dJ7_fill_d0a16_6 rfl (pq := 7) rfl ?_
    refine wb_iload 3 hX dJ7_fill_d0a16_7 rfl (pq := 9) rfl ?_
    refine wb_icmp_ge (tgt := 22) hX dJ7_fill_d0a16_9 (by decide) (fun c => absurd c (nI_ge (by omega) hn)) (pq := 12) rfl (fun _ => ?_)
    refine wb_aload_n 0 hX dJ7_fill_d0a16_12 rfl (pq := 13) rfl ?_
    refine wb_iload_n 2 hX dJ7_fill_d0a16_13 rfl (pq := 14) rfl ?_
    refine wb_lload_n 1 hX dJ7_fill_d0a16_14 rfl (pq := 15) rfl ?_
    refine wb_last hX hk (vp_in_nI (by omega) hn) dJ7_fill_d0a16_15 (pq := 16) rfl ?_
    rw [nI_clamp (by omega), wFillL_succ]
    refine wb_iinc (v := nI (i + 1)) (loc' := [(3, .int (nI (i + 1))), (0, .ref (G.1 a)), (1, .long v), (4, .int (Int32.ofNat n))]) 2 hX hN dJ7_fill_d0a16_16 rfl (nI_1 i) (by decide) rfl (pq := 19) rfl ?_
    refine wb_goto (tgt := 6) hX dJ7_fill_d0a16_19 (by decide) ?_
    refine wb_sub [1, 2, 0, 3] (loc' := [(0, .ref (G.1 a)), (1, .long v), (3, .int (nI (i + 1))), (4, .int (Int32.ofNat n))]) rfl ?_
    exact ih (i + 1) (by omega)
set_option maxHeartbeats 4000000 in
theorem tFillL {l : Launch} {G : wG} {s : wM} {a n r t : Nat} {v : Int64} (hk : wSh[a]? = some (.inl (.long, n, r, t))) (hn : n < 2 ^ 31 := by decide) : wMet l G yJ7_fill_d0a16 cJ7_fill_d0a16 5 none 0 [.ref (G.1 a), .long v] s (wQv G (wFillL s a n v)) := by
  refine wMet_of (own := RJ7) (by decide +kernel) rfl (Nat.le_of_ble_eq_true rfl) ?_
  intro X hX hQ hN hl
  show WB G X 0 [(0, .ref (G.1 a)), (1, .long v)] [] s
  refine wb_iconst (v := iI 0) hX dJ7_fill_d0a16_0 rfl (pq := 1) rfl ?_
  refine wb_istore_n (loc' := [(3, .int (iI 0)), (0, .ref (G.1 a)), (1, .long v)]) hX hN dJ7_fill_d0a16_1 (by decide) rfl (pq := 2) rfl ?_
  refine wb_aload_n 1 hX dJ7_fill_d0a16_2 rfl (pq := 3) rfl ?_
  refine wb_alenL hX hk dJ7_fill_d0a16_3 (pq := 4) rfl ?_
  refine wb_istore (loc' := [(4, .int (Int32.ofNat n)), (3, .int (iI 0)), (0, .ref (G.1 a)), (1, .long v)]) hX hN dJ7_fill_d0a16_4 (by decide) rfl (pq := 6) rfl ?_
  refine wb_sub [2, 3, 1, 0] (loc' := [(0, .ref (G.1 a)), (1, .long v), (3, .int (iI 0)), (4, .int (Int32.ofNat n))]) rfl ?_
  have h := tFillL_L (s := s) (v := v) hk hn hX hQ hN n 0 (by omega)
  rw [wFillL_0] at h
  exact h

