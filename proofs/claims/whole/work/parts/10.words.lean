/-! THE WORDS (by program): the words of the tables that the rows use, by their places; constants. -/
theorem bp_m50 : (Int8.ofInt (-50)).toInt32 = (-50 : Int32) := by decide
theorem bp_6 : (Int8.ofInt (6)).toInt32 = (6 : Int32) := by decide
theorem bp_7 : (Int8.ofInt (7)).toInt32 = (7 : Int32) := by decide
theorem bp_8 : (Int8.ofInt (8)).toInt32 = (8 : Int32) := by decide
theorem bp_9 : (Int8.ofInt (9)).toInt32 = (9 : Int32) := by decide
theorem bp_10 : (Int8.ofInt (10)).toInt32 = (10 : Int32) := by decide
theorem bp_15 : (Int8.ofInt (15)).toInt32 = (15 : Int32) := by decide
theorem bp_16 : (Int8.ofInt (16)).toInt32 = (16 : Int32) := by decide
theorem bp_18 : (Int8.ofInt (18)).toInt32 = (18 : Int32) := by decide
theorem bp_20 : (Int8.ofInt (20)).toInt32 = (20 : Int32) := by decide
theorem bp_30 : (Int8.ofInt (30)).toInt32 = (30 : Int32) := by decide
theorem bp_32 : (Int8.ofInt (32)).toInt32 = (32 : Int32) := by decide
theorem bp_40 : (Int8.ofInt (40)).toInt32 = (40 : Int32) := by decide
theorem bp_42 : (Int8.ofInt (42)).toInt32 = (42 : Int32) := by decide
theorem bp_45 : (Int8.ofInt (45)).toInt32 = (45 : Int32) := by decide
theorem bp_48 : (Int8.ofInt (48)).toInt32 = (48 : Int32) := by decide
theorem bp_49 : (Int8.ofInt (49)).toInt32 = (49 : Int32) := by decide
theorem bp_50 : (Int8.ofInt (50)).toInt32 = (50 : Int32) := by decide
theorem bp_56 : (Int8.ofInt (56)).toInt32 = (56 : Int32) := by decide
theorem bp_57 : (Int8.ofInt (57)).toInt32 = (57 : Int32) := by decide
theorem bp_58 : (Int8.ofInt (58)).toInt32 = (58 : Int32) := by decide
theorem bp_59 : (Int8.ofInt (59)).toInt32 = (59 : Int32) := by decide
theorem bp_60 : (Int8.ofInt (60)).toInt32 = (60 : Int32) := by decide
theorem bp_63 : (Int8.ofInt (63)).toInt32 = (63 : Int32) := by decide
theorem bp_80 : (Int8.ofInt (80)).toInt32 = (80 : Int32) := by decide
theorem bp_97 : (Int8.ofInt (97)).toInt32 = (97 : Int32) := by decide
theorem bp_100 : (Int8.ofInt (100)).toInt32 = (100 : Int32) := by decide
theorem bp_102 : (Int8.ofInt (102)).toInt32 = (102 : Int32) := by decide
theorem bp_104 : (Int8.ofInt (104)).toInt32 = (104 : Int32) := by decide
theorem bp_118 : (Int8.ofInt (118)).toInt32 = (118 : Int32) := by decide
theorem bp_126 : (Int8.ofInt (126)).toInt32 = (126 : Int32) := by decide
theorem ic_m1 : Int32.ofInt (-1) = (-1 : Int32) := by decide
theorem ic_0 : Int32.ofInt (0) = (0 : Int32) := by decide
theorem ic_1 : Int32.ofInt (1) = (1 : Int32) := by decide
theorem ic_2 : Int32.ofInt (2) = (2 : Int32) := by decide
theorem ic_3 : Int32.ofInt (3) = (3 : Int32) := by decide
theorem ic_4 : Int32.ofInt (4) = (4 : Int32) := by decide
theorem ic_5 : Int32.ofInt (5) = (5 : Int32) := by decide
theorem sp_375 : (Int16.ofInt (375)).toInt32 = (375 : Int32) := by decide
theorem sp_728 : (Int16.ofInt (728)).toInt32 = (728 : Int32) := by decide
theorem sp_5000 : (Int16.ofInt (5000)).toInt32 = (5000 : Int32) := by decide
theorem sp_12345 : (Int16.ofInt (12345)).toInt32 = (12345 : Int32) := by decide
theorem z_nar {x : Int32} (h : x = 0 ∨ x = 1) : narrow .boolean (.int x) = .int x := by rcases h with rfl | rfl <;> rfl
theorem z_fit {x : Int32} (h : x = 0 ∨ x = 1) : fits .boolean (.int x) = true := by rcases h with rfl | rfl <;> rfl
theorem hc_0 : ∃ (T : u_T) (N : Nat), wCl[0]? = some (RX0, T, N) := ⟨_, _, rfl⟩
theorem hc_1 : ∃ (T : u_T) (N : Nat), wCl[1]? = some (RX1, T, N) := ⟨_, _, rfl⟩
theorem hc_2 : ∃ (T : u_T) (N : Nat), wCl[2]? = some (RX2, T, N) := ⟨_, _, rfl⟩
theorem hc_3 : ∃ (T : u_T) (N : Nat), wCl[3]? = some (RX3, T, N) := ⟨_, _, rfl⟩
theorem hc_4 : ∃ (T : u_T) (N : Nat), wCl[4]? = some (RX4, T, N) := ⟨_, _, rfl⟩
theorem hc_5 : ∃ (T : u_T) (N : Nat), wCl[5]? = some (RX5, T, N) := ⟨_, _, rfl⟩
theorem hc_6 : ∃ (T : u_T) (N : Nat), wCl[6]? = some (RX6, T, N) := ⟨_, _, rfl⟩
theorem hc_7 : ∃ (T : u_T) (N : Nat), wCl[7]? = some (RX7, T, N) := ⟨_, _, rfl⟩
theorem hc_8 : ∃ (T : u_T) (N : Nat), wCl[8]? = some (RX8, T, N) := ⟨_, _, rfl⟩
theorem hc_9 : ∃ (T : u_T) (N : Nat), wCl[9]? = some (RX9, T, N) := ⟨_, _, rfl⟩
theorem hc_10 : ∃ (T : u_T) (N : Nat), wCl[10]? = some (RX10, T, N) := ⟨_, _, rfl⟩
theorem fl_X0_15 : Cond.fieldLink RX0 15 RX0 (TX0 1).2.1 (TX0 1).2.2.1 ∈ AW := aw_2 59 (by decide +kernel)
theorem fl_X0_19 : Cond.fieldLink RX0 19 RX4 (TX4 2).2.1 (TX4 2).2.2.1 ∈ AW := aw_1 50 (by decide +kernel)
theorem fl_X0_29 : Cond.fieldLink RX0 29 RX4 (TX4 7).2.1 (TX4 7).2.2.1 ∈ AW := aw_1 64 (by decide +kernel)
theorem fl_X0_36 : Cond.fieldLink RX0 36 RX4 (TX4 4).2.1 (TX4 4).2.2.1 ∈ AW := aw_1 55 (by decide +kernel)
theorem fl_X0_42 : Cond.fieldLink RX0 42 RX4 (TX4 5).2.1 (TX4 5).2.2.1 ∈ AW := aw_1 58 (by decide +kernel)
theorem fl_X0_9 : Cond.fieldLink RX0 9 RX0 (TX0 0).2.1 (TX0 0).2.2.1 ∈ AW := aw_2 57 (by decide +kernel)
theorem fl_X10_102 : Cond.fieldLink RX10 102 RX10 (TX10 49).2.1 (TX10 49).2.2.1 ∈ AW := aw_6 0 (by decide +kernel)
theorem fl_X10_105 : Cond.fieldLink RX10 105 RX10 (TX10 50).2.1 (TX10 50).2.2.1 ∈ AW := aw_6 1 (by decide +kernel)
theorem fl_X10_108 : Cond.fieldLink RX10 108 RX10 (TX10 51).2.1 (TX10 51).2.2.1 ∈ AW := aw_6 2 (by decide +kernel)
theorem fl_X10_111 : Cond.fieldLink RX10 111 RX10 (TX10 55).2.1 (TX10 55).2.2.1 ∈ AW := aw_6 6 (by decide +kernel)
theorem fl_X10_114 : Cond.fieldLink RX10 114 RX10 (TX10 56).2.1 (TX10 56).2.2.1 ∈ AW := aw_6 7 (by decide +kernel)
theorem fl_X10_117 : Cond.fieldLink RX10 117 RX10 (TX10 0).2.1 (TX10 0).2.2.1 ∈ AW := aw_5 191 (by decide +kernel)
theorem fl_X10_120 : Cond.fieldLink RX10 120 RX10 (TX10 7).2.1 (TX10 7).2.2.1 ∈ AW := aw_5 198 (by decide +kernel)
theorem fl_X10_123 : Cond.fieldLink RX10 123 RX10 (TX10 8).2.1 (TX10 8).2.2.1 ∈ AW := aw_5 199 (by decide +kernel)
theorem fl_X10_13 : Cond.fieldLink RX10 13 RX10 (TX10 2).2.1 (TX10 2).2.2.1 ∈ AW := aw_5 193 (by decide +kernel)
theorem fl_X10_147 : Cond.fieldLink RX10 147 RX10 (TX10 13).2.1 (TX10 13).2.2.1 ∈ AW := aw_5 204 (by decide +kernel)
theorem fl_X10_150 : Cond.fieldLink RX10 150 RX10 (TX10 14).2.1 (TX10 14).2.2.1 ∈ AW := aw_5 205 (by decide +kernel)
theorem fl_X10_153 : Cond.fieldLink RX10 153 RX10 (TX10 15).2.1 (TX10 15).2.2.1 ∈ AW := aw_5 206 (by decide +kernel)
theorem fl_X10_156 : Cond.fieldLink RX10 156 RX10 (TX10 18).2.1 (TX10 18).2.2.1 ∈ AW := aw_5 209 (by decide +kernel)
theorem fl_X10_16 : Cond.fieldLink RX10 16 RX10 (TX10 3).2.1 (TX10 3).2.2.1 ∈ AW := aw_5 194 (by decide +kernel)
theorem fl_X10_166 : Cond.fieldLink RX10 166 RX10 (TX10 16).2.1 (TX10 16).2.2.1 ∈ AW := aw_5 207 (by decide +kernel)
theorem fl_X10_169 : Cond.fieldLink RX10 169 RX10 (TX10 17).2.1 (TX10 17).2.2.1 ∈ AW := aw_5 208 (by decide +kernel)
theorem fl_X10_172 : Cond.fieldLink RX10 172 RX10 (TX10 19).2.1 (TX10 19).2.2.1 ∈ AW := aw_5 210 (by decide +kernel)
theorem fl_X10_178 : Cond.fieldLink RX10 178 RX10 (TX10 31).2.1 (TX10 31).2.2.1 ∈ AW := aw_5 222 (by decide +kernel)
theorem fl_X10_182 : Cond.fieldLink RX10 182 RX10 (TX10 29).2.1 (TX10 29).2.2.1 ∈ AW := aw_5 220 (by decide +kernel)
theorem fl_X10_189 : Cond.fieldLink RX10 189 RX10 (TX10 28).2.1 (TX10 28).2.2.1 ∈ AW := aw_5 219 (by decide +kernel)
theorem fl_X10_19 : Cond.fieldLink RX10 19 RX10 (TX10 4).2.1 (TX10 4).2.2.1 ∈ AW := aw_5 195 (by decide +kernel)
theorem fl_X10_22 : Cond.fieldLink RX10 22 RX10 (TX10 5).2.1 (TX10 5).2.2.1 ∈ AW := aw_5 196 (by decide +kernel)
theorem fl_X10_245 : Cond.fieldLink RX10 245 RX10 (TX10 39).2.1 (TX10 39).2.2.1 ∈ AW := aw_5 230 (by decide +kernel)
theorem fl_X10_25 : Cond.fieldLink RX10 25 RX10 (TX10 6).2.1 (TX10 6).2.2.1 ∈ AW := aw_5 197 (by decide +kernel)
theorem fl_X10_28 : Cond.fieldLink RX10 28 RX10 (TX10 9).2.1 (TX10 9).2.2.1 ∈ AW := aw_5 200 (by decide +kernel)
theorem fl_X10_286 : Cond.fieldLink RX10 286 RX10 (TX10 42).2.1 (TX10 42).2.2.1 ∈ AW := aw_5 233 (by decide +kernel)
theorem fl_X10_289 : Cond.fieldLink RX10 289 RX10 (TX10 44).2.1 (TX10 44).2.2.1 ∈ AW := aw_5 235 (by decide +kernel)
theorem fl_X10_292 : Cond.fieldLink RX10 292 RX10 (TX10 43).2.1 (TX10 43).2.2.1 ∈ AW := aw_5 234 (by decide +kernel)
theorem fl_X10_298 : Cond.fieldLink RX10 298 RX10 (TX10 45).2.1 (TX10 45).2.2.1 ∈ AW := aw_5 236 (by decide +kernel)
theorem fl_X10_307 : Cond.fieldLink RX10 307 RX10 (TX10 52).2.1 (TX10 52).2.2.1 ∈ AW := aw_6 3 (by decide +kernel)
theorem fl_X10_31 : Cond.fieldLink RX10 31 RX10 (TX10 10).2.1 (TX10 10).2.2.1 ∈ AW := aw_5 201 (by decide +kernel)
theorem fl_X10_310 : Cond.fieldLink RX10 310 RX10 (TX10 53).2.1 (TX10 53).2.2.1 ∈ AW := aw_6 4 (by decide +kernel)
theorem fl_X10_316 : Cond.fieldLink RX10 316 RX10 (TX10 54).2.1 (TX10 54).2.2.1 ∈ AW := aw_6 5 (by decide +kernel)
theorem fl_X10_337 : Cond.fieldLink RX10 337 RX10 (TX10 57).2.1 (TX10 57).2.2.1 ∈ AW := aw_6 8 (by decide +kernel)
theorem fl_X10_34 : Cond.fieldLink RX10 34 RX10 (TX10 11).2.1 (TX10 11).2.2.1 ∈ AW := aw_5 202 (by decide +kernel)
theorem fl_X10_346 : Cond.fieldLink RX10 346 RX10 (TX10 30).2.1 (TX10 30).2.2.1 ∈ AW := aw_5 221 (by decide +kernel)
theorem fl_X10_37 : Cond.fieldLink RX10 37 RX10 (TX10 12).2.1 (TX10 12).2.2.1 ∈ AW := aw_5 203 (by decide +kernel)
theorem fl_X10_40 : Cond.fieldLink RX10 40 RX10 (TX10 20).2.1 (TX10 20).2.2.1 ∈ AW := aw_5 211 (by decide +kernel)
theorem fl_X10_44 : Cond.fieldLink RX10 44 RX10 (TX10 21).2.1 (TX10 21).2.2.1 ∈ AW := aw_5 212 (by decide +kernel)
theorem fl_X10_47 : Cond.fieldLink RX10 47 RX10 (TX10 22).2.1 (TX10 22).2.2.1 ∈ AW := aw_5 213 (by decide +kernel)
theorem fl_X10_50 : Cond.fieldLink RX10 50 RX10 (TX10 23).2.1 (TX10 23).2.2.1 ∈ AW := aw_5 214 (by decide +kernel)
theorem fl_X10_53 : Cond.fieldLink RX10 53 RX10 (TX10 24).2.1 (TX10 24).2.2.1 ∈ AW := aw_5 215 (by decide +kernel)
theorem fl_X10_56 : Cond.fieldLink RX10 56 RX10 (TX10 25).2.1 (TX10 25).2.2.1 ∈ AW := aw_5 216 (by decide +kernel)
theorem fl_X10_59 : Cond.fieldLink RX10 59 RX10 (TX10 26).2.1 (TX10 26).2.2.1 ∈ AW := aw_5 217 (by decide +kernel)
theorem fl_X10_62 : Cond.fieldLink RX10 62 RX10 (TX10 27).2.1 (TX10 27).2.2.1 ∈ AW := aw_5 218 (by decide +kernel)
theorem fl_X10_65 : Cond.fieldLink RX10 65 RX10 (TX10 32).2.1 (TX10 32).2.2.1 ∈ AW := aw_5 223 (by decide +kernel)
theorem fl_X10_68 : Cond.fieldLink RX10 68 RX10 (TX10 33).2.1 (TX10 33).2.2.1 ∈ AW := aw_5 224 (by decide +kernel)
theorem fl_X10_7 : Cond.fieldLink RX10 7 RX10 (TX10 1).2.1 (TX10 1).2.2.1 ∈ AW := aw_5 192 (by decide +kernel)
theorem fl_X10_71 : Cond.fieldLink RX10 71 RX10 (TX10 34).2.1 (TX10 34).2.2.1 ∈ AW := aw_5 225 (by decide +kernel)
theorem fl_X10_74 : Cond.fieldLink RX10 74 RX10 (TX10 35).2.1 (TX10 35).2.2.1 ∈ AW := aw_5 226 (by decide +kernel)
theorem fl_X10_77 : Cond.fieldLink RX10 77 RX10 (TX10 36).2.1 (TX10 36).2.2.1 ∈ AW := aw_5 227 (by decide +kernel)
theorem fl_X10_80 : Cond.fieldLink RX10 80 RX10 (TX10 37).2.1 (TX10 37).2.2.1 ∈ AW := aw_5 228 (by decide +kernel)
theorem fl_X10_83 : Cond.fieldLink RX10 83 RX10 (TX10 38).2.1 (TX10 38).2.2.1 ∈ AW := aw_5 229 (by decide +kernel)
theorem fl_X10_87 : Cond.fieldLink RX10 87 RX10 (TX10 40).2.1 (TX10 40).2.2.1 ∈ AW := aw_5 231 (by decide +kernel)
theorem fl_X10_90 : Cond.fieldLink RX10 90 RX10 (TX10 41).2.1 (TX10 41).2.2.1 ∈ AW := aw_5 232 (by decide +kernel)
theorem fl_X10_93 : Cond.fieldLink RX10 93 RX10 (TX10 46).2.1 (TX10 46).2.2.1 ∈ AW := aw_5 237 (by decide +kernel)
theorem fl_X10_96 : Cond.fieldLink RX10 96 RX10 (TX10 47).2.1 (TX10 47).2.2.1 ∈ AW := aw_5 238 (by decide +kernel)
theorem fl_X10_99 : Cond.fieldLink RX10 99 RX10 (TX10 48).2.1 (TX10 48).2.2.1 ∈ AW := aw_5 239 (by decide +kernel)
theorem fl_X1_11 : Cond.fieldLink RX1 11 RX1 (TX1 0).2.1 (TX1 0).2.2.1 ∈ AW := aw_1 102 (by decide +kernel)
theorem fl_X1_17 : Cond.fieldLink RX1 17 RX1 (TX1 1).2.1 (TX1 1).2.2.1 ∈ AW := aw_1 103 (by decide +kernel)
theorem fl_X1_21 : Cond.fieldLink RX1 21 RX1 (TX1 2).2.1 (TX1 2).2.2.1 ∈ AW := aw_1 104 (by decide +kernel)
theorem fl_X2_15 : Cond.fieldLink RX2 15 RX2 (TX2 1).2.1 (TX2 1).2.2.1 ∈ AW := aw_2 23 (by decide +kernel)
theorem fl_X2_19 : Cond.fieldLink RX2 19 RX2 (TX2 2).2.1 (TX2 2).2.2.1 ∈ AW := aw_2 25 (by decide +kernel)
theorem fl_X2_22 : Cond.fieldLink RX2 22 RX2 (TX2 3).2.1 (TX2 3).2.2.1 ∈ AW := aw_2 27 (by decide +kernel)
theorem fl_X2_26 : Cond.fieldLink RX2 26 RX2 (TX2 4).2.1 (TX2 4).2.2.1 ∈ AW := aw_2 28 (by decide +kernel)
theorem fl_X2_29 : Cond.fieldLink RX2 29 RX2 (TX2 5).2.1 (TX2 5).2.2.1 ∈ AW := aw_2 29 (by decide +kernel)
theorem fl_X2_32 : Cond.fieldLink RX2 32 RX2 (TX2 6).2.1 (TX2 6).2.2.1 ∈ AW := aw_2 30 (by decide +kernel)
theorem fl_X2_35 : Cond.fieldLink RX2 35 RX2 (TX2 7).2.1 (TX2 7).2.2.1 ∈ AW := aw_2 31 (by decide +kernel)
theorem fl_X2_66 : Cond.fieldLink RX2 66 RX4 (TX4 7).2.1 (TX4 7).2.2.1 ∈ AW := aw_1 68 (by decide +kernel)
theorem fl_X2_71 : Cond.fieldLink RX2 71 RX4 (TX4 8).2.1 (TX4 8).2.2.1 ∈ AW := aw_1 72 (by decide +kernel)
theorem fl_X2_9 : Cond.fieldLink RX2 9 RX2 (TX2 0).2.1 (TX2 0).2.2.1 ∈ AW := aw_2 22 (by decide +kernel)
theorem fl_X3_11 : Cond.fieldLink RX3 11 RX3 (TX3 0).2.1 (TX3 0).2.2.1 ∈ AW := aw_1 154 (by decide +kernel)
theorem fl_X3_16 : Cond.fieldLink RX3 16 RX3 (TX3 1).2.1 (TX3 1).2.2.1 ∈ AW := aw_1 157 (by decide +kernel)
theorem fl_X3_33 : Cond.fieldLink RX3 33 RX4 (TX4 7).2.1 (TX4 7).2.2.1 ∈ AW := aw_1 66 (by decide +kernel)
theorem fl_X3_38 : Cond.fieldLink RX3 38 RX4 (TX4 0).2.1 (TX4 0).2.2.1 ∈ AW := aw_1 41 (by decide +kernel)
theorem fl_X3_42 : Cond.fieldLink RX3 42 RX4 (TX4 1).2.1 (TX4 1).2.2.1 ∈ AW := aw_1 47 (by decide +kernel)
theorem fl_X4_15 : Cond.fieldLink RX4 15 RX4 (TX4 1).2.1 (TX4 1).2.2.1 ∈ AW := aw_1 45 (by decide +kernel)
theorem fl_X4_18 : Cond.fieldLink RX4 18 RX4 (TX4 2).2.1 (TX4 2).2.2.1 ∈ AW := aw_1 49 (by decide +kernel)
theorem fl_X4_21 : Cond.fieldLink RX4 21 RX4 (TX4 3).2.1 (TX4 3).2.2.1 ∈ AW := aw_1 52 (by decide +kernel)
theorem fl_X4_24 : Cond.fieldLink RX4 24 RX4 (TX4 4).2.1 (TX4 4).2.2.1 ∈ AW := aw_1 54 (by decide +kernel)
theorem fl_X4_27 : Cond.fieldLink RX4 27 RX4 (TX4 5).2.1 (TX4 5).2.2.1 ∈ AW := aw_1 57 (by decide +kernel)
theorem fl_X4_30 : Cond.fieldLink RX4 30 RX4 (TX4 6).2.1 (TX4 6).2.2.1 ∈ AW := aw_1 61 (by decide +kernel)
theorem fl_X4_33 : Cond.fieldLink RX4 33 RX4 (TX4 7).2.1 (TX4 7).2.2.1 ∈ AW := aw_1 62 (by decide +kernel)
theorem fl_X4_37 : Cond.fieldLink RX4 37 RX4 (TX4 8).2.1 (TX4 8).2.2.1 ∈ AW := aw_1 69 (by decide +kernel)
theorem fl_X4_9 : Cond.fieldLink RX4 9 RX4 (TX4 0).2.1 (TX4 0).2.2.1 ∈ AW := aw_1 40 (by decide +kernel)
theorem fl_X5_15 : Cond.fieldLink RX5 15 RX5 (TX5 1).2.1 (TX5 1).2.2.1 ∈ AW := aw_1 122 (by decide +kernel)
theorem fl_X5_18 : Cond.fieldLink RX5 18 RX5 (TX5 2).2.1 (TX5 2).2.2.1 ∈ AW := aw_1 125 (by decide +kernel)
theorem fl_X5_21 : Cond.fieldLink RX5 21 RX5 (TX5 3).2.1 (TX5 3).2.2.1 ∈ AW := aw_1 128 (by decide +kernel)
theorem fl_X5_9 : Cond.fieldLink RX5 9 RX5 (TX5 0).2.1 (TX5 0).2.2.1 ∈ AW := aw_1 119 (by decide +kernel)
theorem fl_X6_13 : Cond.fieldLink RX6 13 RX6 (TX6 0).2.1 (TX6 0).2.2.1 ∈ AW := aw_1 172 (by decide +kernel)
theorem fl_X6_16 : Cond.fieldLink RX6 16 RX6 (TX6 1).2.1 (TX6 1).2.2.1 ∈ AW := aw_1 173 (by decide +kernel)
theorem fl_X6_20 : Cond.fieldLink RX6 20 RX6 (TX6 2).2.1 (TX6 2).2.2.1 ∈ AW := aw_1 174 (by decide +kernel)
theorem fl_X6_23 : Cond.fieldLink RX6 23 RX3 (TX3 0).2.1 (TX3 0).2.2.1 ∈ AW := aw_1 155 (by decide +kernel)
theorem fl_X7_15 : Cond.fieldLink RX7 15 RX7 (TX7 1).2.1 (TX7 1).2.2.1 ∈ AW := aw_1 229 (by decide +kernel)
theorem fl_X7_18 : Cond.fieldLink RX7 18 RX7 (TX7 2).2.1 (TX7 2).2.2.1 ∈ AW := aw_1 231 (by decide +kernel)
theorem fl_X7_22 : Cond.fieldLink RX7 22 RX7 (TX7 3).2.1 (TX7 3).2.2.1 ∈ AW := aw_1 233 (by decide +kernel)
theorem fl_X7_26 : Cond.fieldLink RX7 26 RX7 (TX7 4).2.1 (TX7 4).2.2.1 ∈ AW := aw_1 235 (by decide +kernel)
theorem fl_X7_29 : Cond.fieldLink RX7 29 RX7 (TX7 5).2.1 (TX7 5).2.2.1 ∈ AW := aw_1 237 (by decide +kernel)
theorem fl_X7_32 : Cond.fieldLink RX7 32 RX7 (TX7 6).2.1 (TX7 6).2.2.1 ∈ AW := aw_1 239 (by decide +kernel)
theorem fl_X7_55 : Cond.fieldLink RX7 55 RX4 (TX4 8).2.1 (TX4 8).2.2.1 ∈ AW := aw_1 70 (by decide +kernel)
theorem fl_X7_62 : Cond.fieldLink RX7 62 RX4 (TX4 5).2.1 (TX4 5).2.2.1 ∈ AW := aw_1 59 (by decide +kernel)
theorem fl_X7_77 : Cond.fieldLink RX7 77 RX4 (TX4 7).2.1 (TX4 7).2.2.1 ∈ AW := aw_1 65 (by decide +kernel)
theorem fl_X7_80 : Cond.fieldLink RX7 80 RX4 (TX4 0).2.1 (TX4 0).2.2.1 ∈ AW := aw_1 43 (by decide +kernel)
theorem fl_X7_9 : Cond.fieldLink RX7 9 RX7 (TX7 0).2.1 (TX7 0).2.2.1 ∈ AW := aw_1 228 (by decide +kernel)
theorem fl_X8_123 : Cond.fieldLink RX8 123 RX5 (TX5 0).2.1 (TX5 0).2.2.1 ∈ AW := aw_1 120 (by decide +kernel)
theorem fl_X8_128 : Cond.fieldLink RX8 128 RX5 (TX5 1).2.1 (TX5 1).2.2.1 ∈ AW := aw_1 123 (by decide +kernel)
theorem fl_X8_138 : Cond.fieldLink RX8 138 RX5 (TX5 2).2.1 (TX5 2).2.2.1 ∈ AW := aw_1 126 (by decide +kernel)
theorem fl_X8_15 : Cond.fieldLink RX8 15 RX8 (TX8 1).2.1 (TX8 1).2.2.1 ∈ AW := aw_1 185 (by decide +kernel)
theorem fl_X8_154 : Cond.fieldLink RX8 154 RX4 (TX4 0).2.1 (TX4 0).2.2.1 ∈ AW := aw_1 44 (by decide +kernel)
theorem fl_X8_20 : Cond.fieldLink RX8 20 RX8 (TX8 2).2.1 (TX8 2).2.2.1 ∈ AW := aw_1 186 (by decide +kernel)
theorem fl_X8_26 : Cond.fieldLink RX8 26 RX8 (TX8 3).2.1 (TX8 3).2.2.1 ∈ AW := aw_1 187 (by decide +kernel)
theorem fl_X8_33 : Cond.fieldLink RX8 33 RX8 (TX8 4).2.1 (TX8 4).2.2.1 ∈ AW := aw_1 189 (by decide +kernel)
theorem fl_X8_37 : Cond.fieldLink RX8 37 RX8 (TX8 5).2.1 (TX8 5).2.2.1 ∈ AW := aw_1 191 (by decide +kernel)
theorem fl_X8_41 : Cond.fieldLink RX8 41 RX8 (TX8 6).2.1 (TX8 6).2.2.1 ∈ AW := aw_1 193 (by decide +kernel)
theorem fl_X8_44 : Cond.fieldLink RX8 44 RX8 (TX8 7).2.1 (TX8 7).2.2.1 ∈ AW := aw_1 195 (by decide +kernel)
theorem fl_X8_47 : Cond.fieldLink RX8 47 RX8 (TX8 8).2.1 (TX8 8).2.2.1 ∈ AW := aw_1 197 (by decide +kernel)
theorem fl_X8_50 : Cond.fieldLink RX8 50 RX8 (TX8 9).2.1 (TX8 9).2.2.1 ∈ AW := aw_1 199 (by decide +kernel)
theorem fl_X8_69 : Cond.fieldLink RX8 69 RX4 (TX4 1).2.1 (TX4 1).2.2.1 ∈ AW := aw_1 46 (by decide +kernel)
theorem fl_X8_9 : Cond.fieldLink RX8 9 RX8 (TX8 0).2.1 (TX8 0).2.2.1 ∈ AW := aw_1 183 (by decide +kernel)
theorem fl_X8_92 : Cond.fieldLink RX8 92 RX4 (TX4 7).2.1 (TX4 7).2.2.1 ∈ AW := aw_1 67 (by decide +kernel)
theorem fl_X8_99 : Cond.fieldLink RX8 99 RX3 (TX3 1).2.1 (TX3 1).2.2.1 ∈ AW := aw_1 158 (by decide +kernel)
theorem fl_X9_101 : Cond.fieldLink RX9 101 RX4 (TX4 0).2.1 (TX4 0).2.2.1 ∈ AW := aw_1 42 (by decide +kernel)
theorem fl_X9_105 : Cond.fieldLink RX9 105 RX4 (TX4 1).2.1 (TX4 1).2.2.1 ∈ AW := aw_1 48 (by decide +kernel)
theorem fl_X9_12 : Cond.fieldLink RX9 12 RX9 (TX9 0).2.1 (TX9 0).2.2.1 ∈ AW := aw_2 66 (by decide +kernel)
theorem fl_X9_131 : Cond.fieldLink RX9 131 RX4 (TX4 8).2.1 (TX4 8).2.2.1 ∈ AW := aw_1 71 (by decide +kernel)
theorem fl_X9_144 : Cond.fieldLink RX9 144 RX4 (TX4 5).2.1 (TX4 5).2.2.1 ∈ AW := aw_1 60 (by decide +kernel)
theorem fl_X9_154 : Cond.fieldLink RX9 154 RX4 (TX4 2).2.1 (TX4 2).2.2.1 ∈ AW := aw_1 51 (by decide +kernel)
theorem fl_X9_157 : Cond.fieldLink RX9 157 RX4 (TX4 3).2.1 (TX4 3).2.2.1 ∈ AW := aw_1 53 (by decide +kernel)
theorem fl_X9_16 : Cond.fieldLink RX9 16 RX9 (TX9 1).2.1 (TX9 1).2.2.1 ∈ AW := aw_2 67 (by decide +kernel)
theorem fl_X9_160 : Cond.fieldLink RX9 160 RX4 (TX4 4).2.1 (TX4 4).2.2.1 ∈ AW := aw_1 56 (by decide +kernel)
theorem fl_X9_163 : Cond.fieldLink RX9 163 RX8 (TX8 0).2.1 (TX8 0).2.2.1 ∈ AW := aw_1 184 (by decide +kernel)
theorem fl_X9_175 : Cond.fieldLink RX9 175 RX8 (TX8 5).2.1 (TX8 5).2.2.1 ∈ AW := aw_1 192 (by decide +kernel)
theorem fl_X9_193 : Cond.fieldLink RX9 193 RX5 (TX5 0).2.1 (TX5 0).2.2.1 ∈ AW := aw_1 121 (by decide +kernel)
theorem fl_X9_195 : Cond.fieldLink RX9 195 RX5 (TX5 1).2.1 (TX5 1).2.2.1 ∈ AW := aw_1 124 (by decide +kernel)
theorem fl_X9_198 : Cond.fieldLink RX9 198 RX5 (TX5 2).2.1 (TX5 2).2.2.1 ∈ AW := aw_1 127 (by decide +kernel)
theorem fl_X9_202 : Cond.fieldLink RX9 202 RX5 (TX5 3).2.1 (TX5 3).2.2.1 ∈ AW := aw_1 129 (by decide +kernel)
theorem fl_X9_205 : Cond.fieldLink RX9 205 RX8 (TX8 3).2.1 (TX8 3).2.2.1 ∈ AW := aw_1 188 (by decide +kernel)
theorem fl_X9_219 : Cond.fieldLink RX9 219 RX3 (TX3 1).2.1 (TX3 1).2.2.1 ∈ AW := aw_1 159 (by decide +kernel)
theorem fl_X9_22 : Cond.fieldLink RX9 22 RX9 (TX9 2).2.1 (TX9 2).2.2.1 ∈ AW := aw_2 68 (by decide +kernel)
theorem fl_X9_225 : Cond.fieldLink RX9 225 RX3 (TX3 0).2.1 (TX3 0).2.2.1 ∈ AW := aw_1 156 (by decide +kernel)
theorem fl_X9_258 : Cond.fieldLink RX9 258 RX8 (TX8 7).2.1 (TX8 7).2.2.1 ∈ AW := aw_1 196 (by decide +kernel)
theorem fl_X9_261 : Cond.fieldLink RX9 261 RX8 (TX8 8).2.1 (TX8 8).2.2.1 ∈ AW := aw_1 198 (by decide +kernel)
theorem fl_X9_264 : Cond.fieldLink RX9 264 RX8 (TX8 9).2.1 (TX8 9).2.2.1 ∈ AW := aw_1 200 (by decide +kernel)
theorem fl_X9_267 : Cond.fieldLink RX9 267 RX8 (TX8 6).2.1 (TX8 6).2.2.1 ∈ AW := aw_1 194 (by decide +kernel)
theorem fl_X9_270 : Cond.fieldLink RX9 270 RX8 (TX8 4).2.1 (TX8 4).2.2.1 ∈ AW := aw_1 190 (by decide +kernel)
theorem fl_X9_274 : Cond.fieldLink RX9 274 RX6 (TX6 2).2.1 (TX6 2).2.2.1 ∈ AW := aw_1 175 (by decide +kernel)
theorem fl_X9_289 : Cond.fieldLink RX9 289 RX7 (TX7 3).2.1 (TX7 3).2.2.1 ∈ AW := aw_1 234 (by decide +kernel)
theorem fl_X9_29 : Cond.fieldLink RX9 29 RX9 (TX9 3).2.1 (TX9 3).2.2.1 ∈ AW := aw_2 69 (by decide +kernel)
theorem fl_X9_292 : Cond.fieldLink RX9 292 RX7 (TX7 4).2.1 (TX7 4).2.2.1 ∈ AW := aw_1 236 (by decide +kernel)
theorem fl_X9_295 : Cond.fieldLink RX9 295 RX7 (TX7 1).2.1 (TX7 1).2.2.1 ∈ AW := aw_1 230 (by decide +kernel)
theorem fl_X9_298 : Cond.fieldLink RX9 298 RX7 (TX7 5).2.1 (TX7 5).2.2.1 ∈ AW := aw_1 238 (by decide +kernel)
theorem fl_X9_301 : Cond.fieldLink RX9 301 RX7 (TX7 6).2.1 (TX7 6).2.2.1 ∈ AW := aw_2 0 (by decide +kernel)
theorem fl_X9_304 : Cond.fieldLink RX9 304 RX2 (TX2 1).2.1 (TX2 1).2.2.1 ∈ AW := aw_2 24 (by decide +kernel)
theorem fl_X9_315 : Cond.fieldLink RX9 315 RX2 (TX2 2).2.1 (TX2 2).2.2.1 ∈ AW := aw_2 26 (by decide +kernel)
theorem fl_X9_325 : Cond.fieldLink RX9 325 RX2 (TX2 7).2.1 (TX2 7).2.2.1 ∈ AW := aw_2 32 (by decide +kernel)
theorem fl_X9_331 : Cond.fieldLink RX9 331 RX0 (TX0 1).2.1 (TX0 1).2.2.1 ∈ AW := aw_2 60 (by decide +kernel)
theorem fl_X9_332 : Cond.fieldLink RX9 332 RX0 (TX0 0).2.1 (TX0 0).2.2.1 ∈ AW := aw_2 58 (by decide +kernel)
theorem fl_X9_336 : Cond.fieldLink RX9 336 RX1 (TX1 2).2.1 (TX1 2).2.2.1 ∈ AW := aw_1 105 (by decide +kernel)
theorem fl_X9_346 : Cond.fieldLink RX9 346 RX7 (TX7 2).2.1 (TX7 2).2.2.1 ∈ AW := aw_1 232 (by decide +kernel)
theorem fl_X9_36 : Cond.fieldLink RX9 36 RX9 (TX9 4).2.1 (TX9 4).2.2.1 ∈ AW := aw_2 70 (by decide +kernel)
theorem fl_X9_43 : Cond.fieldLink RX9 43 RX9 (TX9 5).2.1 (TX9 5).2.2.1 ∈ AW := aw_2 71 (by decide +kernel)
theorem fl_X9_50 : Cond.fieldLink RX9 50 RX9 (TX9 6).2.1 (TX9 6).2.2.1 ∈ AW := aw_2 72 (by decide +kernel)
theorem fl_X9_57 : Cond.fieldLink RX9 57 RX9 (TX9 7).2.1 (TX9 7).2.2.1 ∈ AW := aw_2 73 (by decide +kernel)
theorem fl_X9_61 : Cond.fieldLink RX9 61 RX9 (TX9 8).2.1 (TX9 8).2.2.1 ∈ AW := aw_2 74 (by decide +kernel)
theorem fl_X9_65 : Cond.fieldLink RX9 65 RX9 (TX9 9).2.1 (TX9 9).2.2.1 ∈ AW := aw_2 75 (by decide +kernel)
theorem fl_X9_69 : Cond.fieldLink RX9 69 RX4 (TX4 7).2.1 (TX4 7).2.2.1 ∈ AW := aw_1 63 (by decide +kernel)
theorem g_J6_bitCount_0f7a4 : GS yJ6_bitCount_0f7a4 cJ6_bitCount_0f7a4 1 (Option.some Jvm.ClassFile.FieldType.int) 1 := ⟨⟨aw_4 4 (by decide +kernel), aw_1 23 (by decide +kernel), by decide +kernel, by decide +kernel⟩, aw_4 3 (by decide +kernel)⟩
theorem g_J7_fill_53178 : GS yJ7_fill_53178 cJ7_fill_53178 4 (Option.none : Option Jvm.ClassFile.FieldType) 2 := ⟨⟨aw_2 131 (by decide +kernel), aw_1 12 (by decide +kernel), by decide +kernel, by decide +kernel⟩, aw_2 130 (by decide +kernel)⟩
theorem g_X0_put : GV yX0_put cX0_put 2 (Option.none : Option Jvm.ClassFile.FieldType) 1 := ⟨⟨aw_5 160 (by decide +kernel), aw_1 10 (by decide +kernel), by decide +kernel, by decide +kernel⟩, aw_5 159 (by decide +kernel), aw_0 28 (by decide +kernel)⟩
theorem g_X0_putNumber : GV yX0_putNumber cX0_putNumber 3 (Option.none : Option Jvm.ClassFile.FieldType) 1 := ⟨⟨aw_5 165 (by decide +kernel), aw_1 10 (by decide +kernel), by decide +kernel, by decide +kernel⟩, aw_5 164 (by decide +kernel), aw_0 29 (by decide +kernel)⟩
theorem g_X0_write : GV yX0_write cX0_write 4 (Option.none : Option Jvm.ClassFile.FieldType) 2 := ⟨⟨aw_5 156 (by decide +kernel), aw_1 10 (by decide +kernel), by decide +kernel, by decide +kernel⟩, aw_5 154 (by decide +kernel), aw_5 155 (by decide +kernel)⟩
theorem g_X10_allowsAll : GV yX10_allowsAll cX10_allowsAll 2 (Option.none : Option Jvm.ClassFile.FieldType) 0 := ⟨⟨aw_6 142 (by decide +kernel), aw_1 11 (by decide +kernel), by decide +kernel, by decide +kernel⟩, aw_6 141 (by decide +kernel), aw_0 31 (by decide +kernel)⟩
theorem g_X10_begins : GV yX10_begins cX10_begins 1 (Option.none : Option Jvm.ClassFile.FieldType) 0 := ⟨⟨aw_6 138 (by decide +kernel), aw_1 11 (by decide +kernel), by decide +kernel, by decide +kernel⟩, aw_6 137 (by decide +kernel), aw_0 30 (by decide +kernel)⟩
theorem g_X10_combinations : GV yX10_combinations cX10_combinations 3 (Option.some Jvm.ClassFile.FieldType.int) 0 := ⟨⟨aw_7 11 (by decide +kernel), aw_1 11 (by decide +kernel), by decide +kernel, by decide +kernel⟩, aw_7 10 (by decide +kernel), aw_0 49 (by decide +kernel)⟩
theorem g_X10_comesAll : GV yX10_comesAll cX10_comesAll 2 (Option.some Jvm.ClassFile.FieldType.boolean) 0 := ⟨⟨aw_7 237 (by decide +kernel), aw_1 11 (by decide +kernel), by decide +kernel, by decide +kernel⟩, aw_7 236 (by decide +kernel), aw_0 73 (by decide +kernel)⟩
theorem g_X10_comesConstraint : GV yX10_comesConstraint cX10_comesConstraint 5 (Option.none : Option Jvm.ClassFile.FieldType) 4 := ⟨⟨aw_6 223 (by decide +kernel), aw_1 11 (by decide +kernel), by decide +kernel, by decide +kernel⟩, aw_6 222 (by decide +kernel), aw_0 46 (by decide +kernel)⟩
theorem g_X10_comesVariable : GV yX10_comesVariable cX10_comesVariable 2 (Option.none : Option Jvm.ClassFile.FieldType) 1 := ⟨⟨aw_6 200 (by decide +kernel), aw_1 11 (by decide +kernel), by decide +kernel, by decide +kernel⟩, aw_6 199 (by decide +kernel), aw_0 43 (by decide +kernel)⟩
theorem g_X10_conflictOf : GV yX10_conflictOf cX10_conflictOf 4 (Option.some Jvm.ClassFile.FieldType.int) 1 := ⟨⟨aw_7 23 (by decide +kernel), aw_1 11 (by decide +kernel), by decide +kernel, by decide +kernel⟩, aw_7 22 (by decide +kernel), aw_0 50 (by decide +kernel)⟩
theorem g_X10_costOf : GV yX10_costOf cX10_costOf 4 (Option.some Jvm.ClassFile.FieldType.int) 1 := ⟨⟨aw_6 146 (by decide +kernel), aw_1 11 (by decide +kernel), by decide +kernel, by decide +kernel⟩, aw_6 145 (by decide +kernel), aw_0 32 (by decide +kernel)⟩
theorem g_X10_counts : GV yX10_counts cX10_counts 1 (Option.none : Option Jvm.ClassFile.FieldType) 0 := ⟨⟨aw_7 136 (by decide +kernel), aw_1 11 (by decide +kernel), by decide +kernel, by decide +kernel⟩, aw_7 135 (by decide +kernel), aw_0 62 (by decide +kernel)⟩
theorem g_X10_doExist : GV yX10_doExist cX10_doExist 2 (Option.some Jvm.ClassFile.FieldType.boolean) 1 := ⟨⟨aw_6 216 (by decide +kernel), aw_1 11 (by decide +kernel), by decide +kernel, by decide +kernel⟩, aw_6 215 (by decide +kernel), aw_0 45 (by decide +kernel)⟩
theorem g_X10_fails : GV yX10_fails cX10_fails 2 (Option.some Jvm.ClassFile.FieldType.int) 1 := ⟨⟨aw_6 184 (by decide +kernel), aw_1 11 (by decide +kernel), by decide +kernel, by decide +kernel⟩, aw_6 183 (by decide +kernel), aw_0 39 (by decide +kernel)⟩
theorem g_X10_findMoves : GV yX10_findMoves cX10_findMoves 2 (Option.none : Option Jvm.ClassFile.FieldType) 0 := ⟨⟨aw_7 72 (by decide +kernel), aw_1 11 (by decide +kernel), by decide +kernel, by decide +kernel⟩, aw_7 71 (by decide +kernel), aw_0 51 (by decide +kernel)⟩
theorem g_X10_findThen : GV yX10_findThen cX10_findThen 6 (Option.none : Option Jvm.ClassFile.FieldType) 4 := ⟨⟨aw_7 84 (by decide +kernel), aw_1 11 (by decide +kernel), by decide +kernel, by decide +kernel⟩, aw_7 83 (by decide +kernel), aw_0 54 (by decide +kernel)⟩
theorem g_X10_findTold : GV yX10_findTold cX10_findTold 3 (Option.none : Option Jvm.ClassFile.FieldType) 1 := ⟨⟨aw_8 9 (by decide +kernel), aw_1 11 (by decide +kernel), by decide +kernel, by decide +kernel⟩, aw_8 8 (by decide +kernel), aw_0 74 (by decide +kernel)⟩
theorem g_X10_findsAll : GV yX10_findsAll cX10_findsAll 3 (Option.some Jvm.ClassFile.FieldType.boolean) 0 := ⟨⟨aw_7 177 (by decide +kernel), aw_1 11 (by decide +kernel), by decide +kernel, by decide +kernel⟩, aw_7 176 (by decide +kernel), aw_0 64 (by decide +kernel)⟩
theorem g_X10_goesOn : GV yX10_goesOn cX10_goesOn 2 (Option.some Jvm.ClassFile.FieldType.boolean) 0 := ⟨⟨aw_7 185 (by decide +kernel), aw_1 11 (by decide +kernel), by decide +kernel, by decide +kernel⟩, aw_7 184 (by decide +kernel), aw_0 66 (by decide +kernel)⟩
theorem g_X10_hands : GV yX10_hands cX10_hands 4 (Option.none : Option Jvm.ClassFile.FieldType) 2 := ⟨⟨aw_6 196 (by decide +kernel), aw_1 11 (by decide +kernel), by decide +kernel, by decide +kernel⟩, aw_6 195 (by decide +kernel), aw_0 42 (by decide +kernel)⟩
theorem g_X10_handsAll : GV yX10_handsAll cX10_handsAll 4 (Option.none : Option Jvm.ClassFile.FieldType) 3 := ⟨⟨aw_6 192 (by decide +kernel), aw_1 11 (by decide +kernel), by decide +kernel, by decide +kernel⟩, aw_6 191 (by decide +kernel), aw_0 41 (by decide +kernel)⟩
theorem g_X10_has : GS yX10_has cX10_has 2 (Option.some Jvm.ClassFile.FieldType.boolean) 2 := ⟨⟨aw_6 157 (by decide +kernel), aw_1 11 (by decide +kernel), by decide +kernel, by decide +kernel⟩, aw_6 156 (by decide +kernel)⟩
theorem g_X10_isBetween : GS yX10_isBetween cX10_isBetween 3 (Option.some Jvm.ClassFile.FieldType.boolean) 3 := ⟨⟨aw_6 180 (by decide +kernel), aw_1 11 (by decide +kernel), by decide +kernel, by decide +kernel⟩, aw_6 179 (by decide +kernel)⟩
theorem g_X10_isConstraint : GV yX10_isConstraint cX10_isConstraint 2 (Option.some Jvm.ClassFile.FieldType.boolean) 1 := ⟨⟨aw_6 231 (by decide +kernel), aw_1 11 (by decide +kernel), by decide +kernel, by decide +kernel⟩, aw_6 230 (by decide +kernel), aw_0 47 (by decide +kernel)⟩
theorem g_X10_isForbiddenNow : GV yX10_isForbiddenNow cX10_isForbiddenNow 3 (Option.some Jvm.ClassFile.FieldType.boolean) 2 := ⟨⟨aw_7 88 (by decide +kernel), aw_1 11 (by decide +kernel), by decide +kernel, by decide +kernel⟩, aw_7 87 (by decide +kernel), aw_0 55 (by decide +kernel)⟩
theorem g_X10_isIn : GV yX10_isIn cX10_isIn 3 (Option.some Jvm.ClassFile.FieldType.boolean) 2 := ⟨⟨aw_7 3 (by decide +kernel), aw_1 11 (by decide +kernel), by decide +kernel, by decide +kernel⟩, aw_7 2 (by decide +kernel), aw_0 48 (by decide +kernel)⟩
theorem g_X10_isNext : GV yX10_isNext cX10_isNext 3 (Option.some Jvm.ClassFile.FieldType.boolean) 2 := ⟨⟨aw_7 225 (by decide +kernel), aw_1 11 (by decide +kernel), by decide +kernel, by decide +kernel⟩, aw_7 224 (by decide +kernel), aw_0 70 (by decide +kernel)⟩
theorem g_X10_isVariable : GV yX10_isVariable cX10_isVariable 2 (Option.some Jvm.ClassFile.FieldType.boolean) 1 := ⟨⟨aw_6 208 (by decide +kernel), aw_1 11 (by decide +kernel), by decide +kernel, by decide +kernel⟩, aw_6 207 (by decide +kernel), aw_0 44 (by decide +kernel)⟩
theorem g_X10_keepsBest : GV yX10_keepsBest cX10_keepsBest 2 (Option.none : Option Jvm.ClassFile.FieldType) 0 := ⟨⟨aw_6 173 (by decide +kernel), aw_1 11 (by decide +kernel), by decide +kernel, by decide +kernel⟩, aw_6 172 (by decide +kernel), aw_0 38 (by decide +kernel)⟩
theorem g_X10_leastMove : GV yX10_leastMove cX10_leastMove 4 (Option.some Jvm.ClassFile.FieldType.int) 1 := ⟨⟨aw_7 108 (by decide +kernel), aw_1 11 (by decide +kernel), by decide +kernel, by decide +kernel⟩, aw_7 107 (by decide +kernel), aw_0 58 (by decide +kernel)⟩
theorem g_X10_lists : GV yX10_lists cX10_lists 7 (Option.none : Option Jvm.ClassFile.FieldType) 4 := ⟨⟨aw_7 80 (by decide +kernel), aw_1 11 (by decide +kernel), by decide +kernel, by decide +kernel⟩, aw_7 79 (by decide +kernel), aw_0 53 (by decide +kernel)⟩
theorem g_X10_listsRotations : GV yX10_listsRotations cX10_listsRotations 4 (Option.none : Option Jvm.ClassFile.FieldType) 1 := ⟨⟨aw_7 96 (by decide +kernel), aw_1 11 (by decide +kernel), by decide +kernel, by decide +kernel⟩, aw_7 95 (by decide +kernel), aw_0 57 (by decide +kernel)⟩
theorem g_X10_listsSets : GV yX10_listsSets cX10_listsSets 3 (Option.none : Option Jvm.ClassFile.FieldType) 1 := ⟨⟨aw_7 76 (by decide +kernel), aw_1 11 (by decide +kernel), by decide +kernel, by decide +kernel⟩, aw_7 75 (by decide +kernel), aw_0 52 (by decide +kernel)⟩
theorem g_X10_listsSwaps : GV yX10_listsSwaps cX10_listsSwaps 3 (Option.none : Option Jvm.ClassFile.FieldType) 1 := ⟨⟨aw_7 92 (by decide +kernel), aw_1 11 (by decide +kernel), by decide +kernel, by decide +kernel⟩, aw_7 91 (by decide +kernel), aw_0 56 (by decide +kernel)⟩
theorem g_X10_logs : GV yX10_logs cX10_logs 3 (Option.none : Option Jvm.ClassFile.FieldType) 1 := ⟨⟨aw_7 128 (by decide +kernel), aw_1 11 (by decide +kernel), by decide +kernel, by decide +kernel⟩, aw_7 127 (by decide +kernel), aw_0 60 (by decide +kernel)⟩
theorem g_X10_membersOf : GS yX10_membersOf cX10_membersOf 3 (Option.some Jvm.ClassFile.FieldType.int) 1 := ⟨⟨aw_6 219 (by decide +kernel), aw_1 11 (by decide +kernel), by decide +kernel, by decide +kernel⟩, aw_6 218 (by decide +kernel)⟩
theorem g_X10_notAscending : GV yX10_notAscending cX10_notAscending 6 (Option.some Jvm.ClassFile.FieldType.int) 2 := ⟨⟨aw_6 165 (by decide +kernel), aw_1 11 (by decide +kernel), by decide +kernel, by decide +kernel⟩, aw_6 164 (by decide +kernel), aw_0 36 (by decide +kernel)⟩
theorem g_X10_pairsAlike : GV yX10_pairsAlike cX10_pairsAlike 5 (Option.some Jvm.ClassFile.FieldType.int) 2 := ⟨⟨aw_6 154 (by decide +kernel), aw_1 11 (by decide +kernel), by decide +kernel, by decide +kernel⟩, aw_6 153 (by decide +kernel), aw_0 34 (by decide +kernel)⟩
theorem g_X10_pairsNear : GV yX10_pairsNear cX10_pairsNear 7 (Option.some Jvm.ClassFile.FieldType.int) 2 := ⟨⟨aw_6 169 (by decide +kernel), aw_1 11 (by decide +kernel), by decide +kernel, by decide +kernel⟩, aw_6 168 (by decide +kernel), aw_0 37 (by decide +kernel)⟩
theorem g_X10_remembers : GV yX10_remembers cX10_remembers 2 (Option.none : Option Jvm.ClassFile.FieldType) 0 := ⟨⟨aw_6 188 (by decide +kernel), aw_1 11 (by decide +kernel), by decide +kernel, by decide +kernel⟩, aw_6 187 (by decide +kernel), aw_0 40 (by decide +kernel)⟩
theorem g_X10_restarts : GV yX10_restarts cX10_restarts 2 (Option.none : Option Jvm.ClassFile.FieldType) 0 := ⟨⟨aw_7 140 (by decide +kernel), aw_1 11 (by decide +kernel), by decide +kernel, by decide +kernel⟩, aw_7 139 (by decide +kernel), aw_0 63 (by decide +kernel)⟩
theorem g_X10_skips : GV yX10_skips cX10_skips 2 (Option.some Jvm.ClassFile.FieldType.boolean) 1 := ⟨⟨aw_7 221 (by decide +kernel), aw_1 11 (by decide +kernel), by decide +kernel, by decide +kernel⟩, aw_7 220 (by decide +kernel), aw_0 69 (by decide +kernel)⟩
theorem g_X10_steps : GV yX10_steps cX10_steps 4 (Option.some Jvm.ClassFile.FieldType.boolean) 0 := ⟨⟨aw_7 124 (by decide +kernel), aw_1 11 (by decide +kernel), by decide +kernel, by decide +kernel⟩, aw_7 123 (by decide +kernel), aw_0 59 (by decide +kernel)⟩
theorem g_X10_sumOf : GV yX10_sumOf cX10_sumOf 6 (Option.some Jvm.ClassFile.FieldType.int) 3 := ⟨⟨aw_6 161 (by decide +kernel), aw_1 11 (by decide +kernel), by decide +kernel, by decide +kernel⟩, aw_6 160 (by decide +kernel), aw_0 35 (by decide +kernel)⟩
theorem g_X10_takesEntry : GV yX10_takesEntry cX10_takesEntry 1 (Option.some Jvm.ClassFile.FieldType.boolean) 0 := ⟨⟨aw_7 217 (by decide +kernel), aw_1 11 (by decide +kernel), by decide +kernel, by decide +kernel⟩, aw_7 216 (by decide +kernel), aw_0 68 (by decide +kernel)⟩
theorem g_X10_takesMembers : GV yX10_takesMembers cX10_takesMembers 3 (Option.some Jvm.ClassFile.FieldType.boolean) 0 := ⟨⟨aw_7 229 (by decide +kernel), aw_1 11 (by decide +kernel), by decide +kernel, by decide +kernel⟩, aw_7 228 (by decide +kernel), aw_0 71 (by decide +kernel)⟩
theorem g_X10_takesMove : GV yX10_takesMove cX10_takesMove 3 (Option.none : Option Jvm.ClassFile.FieldType) 1 := ⟨⟨aw_7 132 (by decide +kernel), aw_1 11 (by decide +kernel), by decide +kernel, by decide +kernel⟩, aw_7 131 (by decide +kernel), aw_0 61 (by decide +kernel)⟩
theorem g_X10_takesNumber : GV yX10_takesNumber cX10_takesNumber 3 (Option.some Jvm.ClassFile.FieldType.boolean) 0 := ⟨⟨aw_7 233 (by decide +kernel), aw_1 11 (by decide +kernel), by decide +kernel, by decide +kernel⟩, aw_7 232 (by decide +kernel), aw_0 72 (by decide +kernel)⟩
theorem g_X10_takesText : GV yX10_takesText cX10_takesText 1 (Option.some Jvm.ClassFile.FieldType.boolean) 0 := ⟨⟨aw_7 213 (by decide +kernel), aw_1 11 (by decide +kernel), by decide +kernel, by decide +kernel⟩, aw_7 212 (by decide +kernel), aw_0 67 (by decide +kernel)⟩
theorem g_X10_tells : GV yX10_tells cX10_tells 2 (Option.none : Option Jvm.ClassFile.FieldType) 1 := ⟨⟨aw_8 13 (by decide +kernel), aw_1 11 (by decide +kernel), by decide +kernel, by decide +kernel⟩, aw_8 12 (by decide +kernel), aw_0 75 (by decide +kernel)⟩
theorem g_X10_violatedBy : GV yX10_violatedBy cX10_violatedBy 4 (Option.some Jvm.ClassFile.FieldType.int) 1 := ⟨⟨aw_7 181 (by decide +kernel), aw_1 11 (by decide +kernel), by decide +kernel, by decide +kernel⟩, aw_7 180 (by decide +kernel), aw_0 65 (by decide +kernel)⟩
theorem g_X10_violationOf : GV yX10_violationOf cX10_violationOf 4 (Option.some Jvm.ClassFile.FieldType.int) 2 := ⟨⟨aw_6 150 (by decide +kernel), aw_1 11 (by decide +kernel), by decide +kernel, by decide +kernel⟩, aw_6 149 (by decide +kernel), aw_0 33 (by decide +kernel)⟩
theorem g_X1_bringBack : GV yX1_bringBack cX1_bringBack 2 (Option.none : Option Jvm.ClassFile.FieldType) 1 := ⟨⟨aw_5 177 (by decide +kernel), aw_1 3 (by decide +kernel), by decide +kernel, by decide +kernel⟩, aw_5 175 (by decide +kernel), aw_5 176 (by decide +kernel)⟩
theorem g_X1_forget : GV yX1_forget cX1_forget 1 (Option.none : Option Jvm.ClassFile.FieldType) 0 := ⟨⟨aw_2 108 (by decide +kernel), aw_1 3 (by decide +kernel), by decide +kernel, by decide +kernel⟩, aw_2 106 (by decide +kernel), aw_2 107 (by decide +kernel)⟩
theorem g_X1_remember : GV yX1_remember cX1_remember 2 (Option.none : Option Jvm.ClassFile.FieldType) 1 := ⟨⟨aw_3 167 (by decide +kernel), aw_1 3 (by decide +kernel), by decide +kernel, by decide +kernel⟩, aw_3 165 (by decide +kernel), aw_3 166 (by decide +kernel)⟩
theorem g_X2_addTo : GV yX2_addTo cX2_addTo 3 (Option.none : Option Jvm.ClassFile.FieldType) 1 := ⟨⟨aw_5 136 (by decide +kernel), aw_1 9 (by decide +kernel), by decide +kernel, by decide +kernel⟩, aw_5 134 (by decide +kernel), aw_5 135 (by decide +kernel)⟩
theorem g_X2_fits : GV yX2_fits cX2_fits 5 (Option.some Jvm.ClassFile.FieldType.boolean) 1 := ⟨⟨aw_5 131 (by decide +kernel), aw_1 9 (by decide +kernel), by decide +kernel, by decide +kernel⟩, aw_5 129 (by decide +kernel), aw_5 130 (by decide +kernel)⟩
theorem g_X2_parse : GV yX2_parse cX2_parse 1 (Option.some Jvm.ClassFile.FieldType.boolean) 0 := ⟨⟨aw_5 98 (by decide +kernel), aw_1 9 (by decide +kernel), by decide +kernel, by decide +kernel⟩, aw_5 96 (by decide +kernel), aw_5 97 (by decide +kernel)⟩
theorem g_X2_parseEntry : GV yX2_parseEntry cX2_parseEntry 1 (Option.some Jvm.ClassFile.FieldType.boolean) 0 := ⟨⟨aw_5 102 (by decide +kernel), aw_1 9 (by decide +kernel), by decide +kernel, by decide +kernel⟩, aw_5 101 (by decide +kernel), aw_0 21 (by decide +kernel)⟩
theorem g_X2_parseKind : GV yX2_parseKind cX2_parseKind 2 (Option.some Jvm.ClassFile.FieldType.boolean) 0 := ⟨⟨aw_5 114 (by decide +kernel), aw_1 9 (by decide +kernel), by decide +kernel, by decide +kernel⟩, aw_5 113 (by decide +kernel), aw_0 24 (by decide +kernel)⟩
theorem g_X2_parseMembers : GV yX2_parseMembers cX2_parseMembers 5 (Option.some Jvm.ClassFile.FieldType.boolean) 0 := ⟨⟨aw_5 118 (by decide +kernel), aw_1 9 (by decide +kernel), by decide +kernel, by decide +kernel⟩, aw_5 117 (by decide +kernel), aw_0 25 (by decide +kernel)⟩
theorem g_X2_parseNumber : GV yX2_parseNumber cX2_parseNumber 5 (Option.some Jvm.ClassFile.FieldType.boolean) 0 := ⟨⟨aw_5 122 (by decide +kernel), aw_1 9 (by decide +kernel), by decide +kernel, by decide +kernel⟩, aw_5 121 (by decide +kernel), aw_0 26 (by decide +kernel)⟩
theorem g_X2_parseSize : GV yX2_parseSize cX2_parseSize 2 (Option.some Jvm.ClassFile.FieldType.boolean) 0 := ⟨⟨aw_5 110 (by decide +kernel), aw_1 9 (by decide +kernel), by decide +kernel, by decide +kernel⟩, aw_5 109 (by decide +kernel), aw_0 23 (by decide +kernel)⟩
theorem g_X2_parseWeight : GV yX2_parseWeight cX2_parseWeight 2 (Option.some Jvm.ClassFile.FieldType.boolean) 0 := ⟨⟨aw_5 127 (by decide +kernel), aw_1 9 (by decide +kernel), by decide +kernel, by decide +kernel⟩, aw_5 126 (by decide +kernel), aw_0 27 (by decide +kernel)⟩
theorem g_X2_put : GV yX2_put cX2_put 2 (Option.none : Option Jvm.ClassFile.FieldType) 1 := ⟨⟨aw_5 87 (by decide +kernel), aw_1 9 (by decide +kernel), by decide +kernel, by decide +kernel⟩, aw_5 85 (by decide +kernel), aw_5 86 (by decide +kernel)⟩
theorem g_X2_take : GV yX2_take cX2_take 3 (Option.some Jvm.ClassFile.FieldType.int) 2 := ⟨⟨aw_5 106 (by decide +kernel), aw_1 9 (by decide +kernel), by decide +kernel, by decide +kernel⟩, aw_5 105 (by decide +kernel), aw_0 22 (by decide +kernel)⟩
theorem g_X3_fill : GV yX3_fill cX3_fill 3 (Option.none : Option Jvm.ClassFile.FieldType) 2 := ⟨⟨aw_2 202 (by decide +kernel), aw_1 6 (by decide +kernel), by decide +kernel, by decide +kernel⟩, aw_2 200 (by decide +kernel), aw_2 201 (by decide +kernel)⟩
theorem g_X3_fits : GS yX3_fits cX3_fits 3 (Option.some Jvm.ClassFile.FieldType.boolean) 3 := ⟨⟨aw_2 217 (by decide +kernel), aw_1 6 (by decide +kernel), by decide +kernel, by decide +kernel⟩, aw_2 216 (by decide +kernel)⟩
theorem g_X3_isRotation : GS yX3_isRotation cX3_isRotation 5 (Option.some Jvm.ClassFile.FieldType.boolean) 4 := ⟨⟨aw_2 228 (by decide +kernel), aw_1 6 (by decide +kernel), by decide +kernel, by decide +kernel⟩, aw_2 227 (by decide +kernel)⟩
theorem g_X3_put : GV yX3_put cX3_put 5 (Option.none : Option Jvm.ClassFile.FieldType) 4 := ⟨⟨aw_2 210 (by decide +kernel), aw_1 6 (by decide +kernel), by decide +kernel, by decide +kernel⟩, aw_2 209 (by decide +kernel), aw_0 9 (by decide +kernel)⟩
theorem g_X3_putRotations : GV yX3_putRotations cX3_putRotations 5 (Option.none : Option Jvm.ClassFile.FieldType) 1 := ⟨⟨aw_2 225 (by decide +kernel), aw_1 6 (by decide +kernel), by decide +kernel, by decide +kernel⟩, aw_2 224 (by decide +kernel), aw_0 12 (by decide +kernel)⟩
theorem g_X3_putSets : GV yX3_putSets cX3_putSets 4 (Option.none : Option Jvm.ClassFile.FieldType) 1 := ⟨⟨aw_2 206 (by decide +kernel), aw_1 6 (by decide +kernel), by decide +kernel, by decide +kernel⟩, aw_2 205 (by decide +kernel), aw_0 8 (by decide +kernel)⟩
theorem g_X3_putShifts : GV yX3_putShifts cX3_putShifts 3 (Option.none : Option Jvm.ClassFile.FieldType) 1 := ⟨⟨aw_2 221 (by decide +kernel), aw_1 6 (by decide +kernel), by decide +kernel, by decide +kernel⟩, aw_2 220 (by decide +kernel), aw_0 11 (by decide +kernel)⟩
theorem g_X3_putSwaps : GV yX3_putSwaps cX3_putSwaps 4 (Option.none : Option Jvm.ClassFile.FieldType) 1 := ⟨⟨aw_2 214 (by decide +kernel), aw_1 6 (by decide +kernel), by decide +kernel, by decide +kernel⟩, aw_2 213 (by decide +kernel), aw_0 10 (by decide +kernel)⟩
theorem g_X3_shifted : GS yX3_shifted cX3_shifted 3 (Option.some Jvm.ClassFile.FieldType.int) 3 := ⟨⟨aw_3 4 (by decide +kernel), aw_1 6 (by decide +kernel), by decide +kernel, by decide +kernel⟩, aw_3 3 (by decide +kernel)⟩
theorem g_X3_tryOut : GV yX3_tryOut cX3_tryOut 7 (Option.none : Option Jvm.ClassFile.FieldType) 3 := ⟨⟨aw_3 0 (by decide +kernel), aw_1 6 (by decide +kernel), by decide +kernel, by decide +kernel⟩, aw_2 238 (by decide +kernel), aw_2 239 (by decide +kernel)⟩
theorem g_X4_closePairs : GV yX4_closePairs cX4_closePairs 6 (Option.some Jvm.ClassFile.FieldType.int) 2 := ⟨⟨aw_2 151 (by decide +kernel), aw_1 2 (by decide +kernel), by decide +kernel, by decide +kernel⟩, aw_2 150 (by decide +kernel), aw_0 3 (by decide +kernel)⟩
theorem g_X4_combinations : GV yX4_combinations cX4_combinations 3 (Option.some Jvm.ClassFile.FieldType.int) 0 := ⟨⟨aw_4 58 (by decide +kernel), aw_1 2 (by decide +kernel), by decide +kernel, by decide +kernel⟩, aw_4 56 (by decide +kernel), aw_4 57 (by decide +kernel)⟩
theorem g_X4_conflictOf : GV yX4_conflictOf cX4_conflictOf 4 (Option.some Jvm.ClassFile.FieldType.int) 1 := ⟨⟨aw_4 76 (by decide +kernel), aw_1 2 (by decide +kernel), by decide +kernel, by decide +kernel⟩, aw_4 74 (by decide +kernel), aw_4 75 (by decide +kernel)⟩
theorem g_X4_copyFrom : GV yX4_copyFrom cX4_copyFrom 2 (Option.none : Option Jvm.ClassFile.FieldType) 1 := ⟨⟨aw_3 66 (by decide +kernel), aw_1 2 (by decide +kernel), by decide +kernel, by decide +kernel⟩, aw_3 64 (by decide +kernel), aw_3 65 (by decide +kernel)⟩
theorem g_X4_costIn : GV yX4_costIn cX4_costIn 4 (Option.some Jvm.ClassFile.FieldType.int) 1 := ⟨⟨aw_2 139 (by decide +kernel), aw_1 2 (by decide +kernel), by decide +kernel, by decide +kernel⟩, aw_2 137 (by decide +kernel), aw_2 138 (by decide +kernel)⟩
theorem g_X4_descents : GV yX4_descents cX4_descents 5 (Option.some Jvm.ClassFile.FieldType.int) 2 := ⟨⟨aw_2 165 (by decide +kernel), aw_1 2 (by decide +kernel), by decide +kernel, by decide +kernel⟩, aw_2 164 (by decide +kernel), aw_0 5 (by decide +kernel)⟩
theorem g_X4_dropConstraint : GV yX4_dropConstraint cX4_dropConstraint 3 (Option.none : Option Jvm.ClassFile.FieldType) 1 := ⟨⟨aw_4 29 (by decide +kernel), aw_1 2 (by decide +kernel), by decide +kernel, by decide +kernel⟩, aw_4 27 (by decide +kernel), aw_4 28 (by decide +kernel)⟩
theorem g_X4_gather : GV yX4_gather cX4_gather 6 (Option.some Jvm.ClassFile.FieldType.int) 2 := ⟨⟨aw_2 147 (by decide +kernel), aw_1 2 (by decide +kernel), by decide +kernel, by decide +kernel⟩, aw_2 146 (by decide +kernel), aw_0 2 (by decide +kernel)⟩
theorem g_X4_isMember : GV yX4_isMember cX4_isMember 3 (Option.some Jvm.ClassFile.FieldType.boolean) 2 := ⟨⟨aw_4 80 (by decide +kernel), aw_1 2 (by decide +kernel), by decide +kernel, by decide +kernel⟩, aw_4 78 (by decide +kernel), aw_4 79 (by decide +kernel)⟩
theorem g_X4_membershipsOf : GV yX4_membershipsOf cX4_membershipsOf 4 (Option.some Jvm.ClassFile.FieldType.int) 1 := ⟨⟨aw_4 84 (by decide +kernel), aw_1 2 (by decide +kernel), by decide +kernel, by decide +kernel⟩, aw_4 82 (by decide +kernel), aw_4 83 (by decide +kernel)⟩
theorem g_X4_presentCost : GV yX4_presentCost cX4_presentCost 1 (Option.some Jvm.ClassFile.FieldType.int) 0 := ⟨⟨aw_2 135 (by decide +kernel), aw_1 2 (by decide +kernel), by decide +kernel, by decide +kernel⟩, aw_2 133 (by decide +kernel), aw_2 134 (by decide +kernel)⟩
theorem g_X4_putConstraint : GV yX4_putConstraint cX4_putConstraint 5 (Option.none : Option Jvm.ClassFile.FieldType) 4 := ⟨⟨aw_4 14 (by decide +kernel), aw_1 2 (by decide +kernel), by decide +kernel, by decide +kernel⟩, aw_4 12 (by decide +kernel), aw_4 13 (by decide +kernel)⟩
theorem g_X4_putVariable : GV yX4_putVariable cX4_putVariable 2 (Option.none : Option Jvm.ClassFile.FieldType) 1 := ⟨⟨aw_3 172 (by decide +kernel), aw_1 2 (by decide +kernel), by decide +kernel, by decide +kernel⟩, aw_3 170 (by decide +kernel), aw_3 171 (by decide +kernel)⟩
theorem g_X4_removeAll : GV yX4_removeAll cX4_removeAll 1 (Option.none : Option Jvm.ClassFile.FieldType) 0 := ⟨⟨aw_2 104 (by decide +kernel), aw_1 2 (by decide +kernel), by decide +kernel, by decide +kernel⟩, aw_2 102 (by decide +kernel), aw_2 103 (by decide +kernel)⟩
theorem g_X4_sum : GV yX4_sum cX4_sum 4 (Option.some Jvm.ClassFile.FieldType.int) 1 := ⟨⟨aw_2 158 (by decide +kernel), aw_1 2 (by decide +kernel), by decide +kernel, by decide +kernel⟩, aw_2 157 (by decide +kernel), aw_0 4 (by decide +kernel)⟩
theorem g_X4_takeValues : GV yX4_takeValues cX4_takeValues 2 (Option.none : Option Jvm.ClassFile.FieldType) 1 := ⟨⟨aw_2 193 (by decide +kernel), aw_1 2 (by decide +kernel), by decide +kernel, by decide +kernel⟩, aw_2 191 (by decide +kernel), aw_2 192 (by decide +kernel)⟩
theorem g_X4_violatedConstraints : GV yX4_violatedConstraints cX4_violatedConstraints 3 (Option.some Jvm.ClassFile.FieldType.int) 0 := ⟨⟨aw_4 54 (by decide +kernel), aw_1 2 (by decide +kernel), by decide +kernel, by decide +kernel⟩, aw_4 52 (by decide +kernel), aw_4 53 (by decide +kernel)⟩
theorem g_X4_violationIn : GV yX4_violationIn cX4_violationIn 5 (Option.some Jvm.ClassFile.FieldType.int) 2 := ⟨⟨aw_2 143 (by decide +kernel), aw_1 2 (by decide +kernel), by decide +kernel, by decide +kernel⟩, aw_2 141 (by decide +kernel), aw_2 142 (by decide +kernel)⟩
theorem g_X4_zeros : GV yX4_zeros cX4_zeros 4 (Option.some Jvm.ClassFile.FieldType.int) 1 := ⟨⟨aw_2 169 (by decide +kernel), aw_1 2 (by decide +kernel), by decide +kernel, by decide +kernel⟩, aw_2 168 (by decide +kernel), aw_0 6 (by decide +kernel)⟩
theorem g_X5_nextSeed : GV yX5_nextSeed cX5_nextSeed 1 (Option.some Jvm.ClassFile.FieldType.int) 0 := ⟨⟨aw_3 52 (by decide +kernel), aw_1 4 (by decide +kernel), by decide +kernel, by decide +kernel⟩, aw_3 50 (by decide +kernel), aw_3 51 (by decide +kernel)⟩
theorem g_X5_reset : GV yX5_reset cX5_reset 1 (Option.none : Option Jvm.ClassFile.FieldType) 0 := ⟨⟨aw_2 112 (by decide +kernel), aw_1 4 (by decide +kernel), by decide +kernel, by decide +kernel⟩, aw_2 110 (by decide +kernel), aw_2 111 (by decide +kernel)⟩
theorem g_X6_forget : GV yX6_forget cX6_forget 1 (Option.none : Option Jvm.ClassFile.FieldType) 0 := ⟨⟨aw_2 124 (by decide +kernel), aw_1 7 (by decide +kernel), by decide +kernel, by decide +kernel⟩, aw_2 122 (by decide +kernel), aw_2 123 (by decide +kernel)⟩
theorem g_X6_improvements : GV yX6_improvements cX6_improvements 3 (Option.some Jvm.ClassFile.FieldType.int) 0 := ⟨⟨aw_5 18 (by decide +kernel), aw_1 7 (by decide +kernel), by decide +kernel, by decide +kernel⟩, aw_5 16 (by decide +kernel), aw_5 17 (by decide +kernel)⟩
theorem g_X6_partAt : GV yX6_partAt cX6_partAt 3 (Option.some Jvm.ClassFile.FieldType.int) 2 := ⟨⟨aw_4 228 (by decide +kernel), aw_1 7 (by decide +kernel), by decide +kernel, by decide +kernel⟩, aw_4 226 (by decide +kernel), aw_4 227 (by decide +kernel)⟩
theorem g_X6_put : GV yX6_put cX6_put 8 (Option.none : Option Jvm.ClassFile.FieldType) 5 := ⟨⟨aw_4 202 (by decide +kernel), aw_1 7 (by decide +kernel), by decide +kernel, by decide +kernel⟩, aw_4 200 (by decide +kernel), aw_4 201 (by decide +kernel)⟩
theorem g_X7_advance : GV yX7_advance cX7_advance 3 (Option.none : Option Jvm.ClassFile.FieldType) 1 := ⟨⟨aw_5 48 (by decide +kernel), aw_1 8 (by decide +kernel), by decide +kernel, by decide +kernel⟩, aw_5 47 (by decide +kernel), aw_0 20 (by decide +kernel)⟩
theorem g_X7_explore : GV yX7_explore cX7_explore 4 (Option.none : Option Jvm.ClassFile.FieldType) 1 := ⟨⟨aw_5 34 (by decide +kernel), aw_1 8 (by decide +kernel), by decide +kernel, by decide +kernel⟩, aw_5 32 (by decide +kernel), aw_5 33 (by decide +kernel)⟩
theorem g_X7_weigh : GV yX7_weigh cX7_weigh 6 (Option.none : Option Jvm.ClassFile.FieldType) 1 := ⟨⟨aw_5 41 (by decide +kernel), aw_1 8 (by decide +kernel), by decide +kernel, by decide +kernel⟩, aw_5 40 (by decide +kernel), aw_0 19 (by decide +kernel)⟩
theorem g_X8_banLeftValues : GV yX8_banLeftValues cX8_banLeftValues 5 (Option.none : Option Jvm.ClassFile.FieldType) 2 := ⟨⟨aw_4 197 (by decide +kernel), aw_1 5 (by decide +kernel), by decide +kernel, by decide +kernel⟩, aw_4 196 (by decide +kernel), aw_0 17 (by decide +kernel)⟩
theorem g_X8_begin : GV yX8_begin cX8_begin 2 (Option.none : Option Jvm.ClassFile.FieldType) 1 := ⟨⟨aw_2 120 (by decide +kernel), aw_1 5 (by decide +kernel), by decide +kernel, by decide +kernel⟩, aw_2 118 (by decide +kernel), aw_2 119 (by decide +kernel)⟩
theorem g_X8_cheapest : GV yX8_cheapest cX8_cheapest 9 (Option.some Jvm.ClassFile.FieldType.int) 3 := ⟨⟨aw_3 25 (by decide +kernel), aw_1 5 (by decide +kernel), by decide +kernel, by decide +kernel⟩, aw_3 23 (by decide +kernel), aw_3 24 (by decide +kernel)⟩
theorem g_X8_costAfter : GV yX8_costAfter cX8_costAfter 3 (Option.some Jvm.ClassFile.FieldType.int) 2 := ⟨⟨aw_2 236 (by decide +kernel), aw_1 5 (by decide +kernel), by decide +kernel, by decide +kernel⟩, aw_2 234 (by decide +kernel), aw_2 235 (by decide +kernel)⟩
theorem g_X8_downhill : GV yX8_downhill cX8_downhill 4 (Option.some Jvm.ClassFile.FieldType.int) 2 := ⟨⟨aw_3 21 (by decide +kernel), aw_1 5 (by decide +kernel), by decide +kernel, by decide +kernel⟩, aw_3 19 (by decide +kernel), aw_3 20 (by decide +kernel)⟩
theorem g_X8_freeAll : GV yX8_freeAll cX8_freeAll 2 (Option.none : Option Jvm.ClassFile.FieldType) 0 := ⟨⟨aw_2 128 (by decide +kernel), aw_1 5 (by decide +kernel), by decide +kernel, by decide +kernel⟩, aw_2 127 (by decide +kernel), aw_0 1 (by decide +kernel)⟩
theorem g_X8_goDown : GV yX8_goDown cX8_goDown 4 (Option.none : Option Jvm.ClassFile.FieldType) 2 := ⟨⟨aw_3 35 (by decide +kernel), aw_1 5 (by decide +kernel), by decide +kernel, by decide +kernel⟩, aw_3 33 (by decide +kernel), aw_3 34 (by decide +kernel)⟩
theorem g_X8_heldMoves : GV yX8_heldMoves cX8_heldMoves 4 (Option.some Jvm.ClassFile.FieldType.int) 1 := ⟨⟨aw_2 232 (by decide +kernel), aw_1 5 (by decide +kernel), by decide +kernel, by decide +kernel⟩, aw_2 230 (by decide +kernel), aw_2 231 (by decide +kernel)⟩
theorem g_X8_isBanned : GV yX8_isBanned cX8_isBanned 3 (Option.some Jvm.ClassFile.FieldType.boolean) 2 := ⟨⟨aw_3 13 (by decide +kernel), aw_1 5 (by decide +kernel), by decide +kernel, by decide +kernel⟩, aw_3 11 (by decide +kernel), aw_3 12 (by decide +kernel)⟩
theorem g_X8_isTrialHeld : GV yX8_isTrialHeld cX8_isTrialHeld 4 (Option.some Jvm.ClassFile.FieldType.boolean) 2 := ⟨⟨aw_3 9 (by decide +kernel), aw_1 5 (by decide +kernel), by decide +kernel, by decide +kernel⟩, aw_3 7 (by decide +kernel), aw_3 8 (by decide +kernel)⟩
theorem g_X8_keepBest : GV yX8_keepBest cX8_keepBest 3 (Option.none : Option Jvm.ClassFile.FieldType) 2 := ⟨⟨aw_2 173 (by decide +kernel), aw_1 5 (by decide +kernel), by decide +kernel, by decide +kernel⟩, aw_2 172 (by decide +kernel), aw_0 7 (by decide +kernel)⟩
theorem g_X8_keepIfBest : GV yX8_keepIfBest cX8_keepIfBest 4 (Option.some Jvm.ClassFile.FieldType.boolean) 2 := ⟨⟨aw_3 40 (by decide +kernel), aw_1 5 (by decide +kernel), by decide +kernel, by decide +kernel⟩, aw_3 39 (by decide +kernel), aw_0 13 (by decide +kernel)⟩
theorem g_X8_reliefOf : GV yX8_reliefOf cX8_reliefOf 5 (Option.some Jvm.ClassFile.FieldType.int) 2 := ⟨⟨aw_4 126 (by decide +kernel), aw_1 5 (by decide +kernel), by decide +kernel, by decide +kernel⟩, aw_4 124 (by decide +kernel), aw_4 125 (by decide +kernel)⟩
theorem g_X8_startAnew : GV yX8_startAnew cX8_startAnew 6 (Option.none : Option Jvm.ClassFile.FieldType) 2 := ⟨⟨aw_3 48 (by decide +kernel), aw_1 5 (by decide +kernel), by decide +kernel, by decide +kernel⟩, aw_3 46 (by decide +kernel), aw_3 47 (by decide +kernel)⟩
theorem g_X8_tryStep : GV yX8_tryStep cX8_tryStep 6 (Option.some Jvm.ClassFile.FieldType.boolean) 2 := ⟨⟨aw_4 193 (by decide +kernel), aw_1 5 (by decide +kernel), by decide +kernel, by decide +kernel⟩, aw_4 191 (by decide +kernel), aw_4 192 (by decide +kernel)⟩
theorem g_X9_areMembers : GS yX9_areMembers cX9_areMembers 2 (Option.some Jvm.ClassFile.FieldType.boolean) 2 := ⟨⟨aw_4 10 (by decide +kernel), aw_1 1 (by decide +kernel), by decide +kernel, by decide +kernel⟩, aw_4 9 (by decide +kernel)⟩
theorem g_X9_beginSearch : GV yX9_beginSearch cX9_beginSearch 1 (Option.none : Option Jvm.ClassFile.FieldType) 0 := ⟨⟨aw_2 116 (by decide +kernel), aw_1 1 (by decide +kernel), by decide +kernel, by decide +kernel⟩, aw_2 115 (by decide +kernel), aw_0 0 (by decide +kernel)⟩
theorem g_X9_checkConstraint : GV yX9_checkConstraint cX9_checkConstraint 2 (Option.none : Option Jvm.ClassFile.FieldType) 1 := ⟨⟨aw_4 25 (by decide +kernel), aw_1 1 (by decide +kernel), by decide +kernel, by decide +kernel⟩, aw_4 24 (by decide +kernel), aw_0 16 (by decide +kernel)⟩
theorem g_X9_checkRange : GS yX9_checkRange cX9_checkRange 3 (Option.none : Option Jvm.ClassFile.FieldType) 3 := ⟨⟨aw_3 81 (by decide +kernel), aw_1 1 (by decide +kernel), by decide +kernel, by decide +kernel⟩, aw_3 80 (by decide +kernel)⟩
theorem g_X9_checkSize : GS yX9_checkSize cX9_checkSize 1 (Option.none : Option Jvm.ClassFile.FieldType) 1 := ⟨⟨aw_3 78 (by decide +kernel), aw_1 1 (by decide +kernel), by decide +kernel, by decide +kernel⟩, aw_3 77 (by decide +kernel)⟩
theorem g_X9_checkVariable : GV yX9_checkVariable cX9_checkVariable 2 (Option.none : Option Jvm.ClassFile.FieldType) 1 := ⟨⟨aw_3 216 (by decide +kernel), aw_1 1 (by decide +kernel), by decide +kernel, by decide +kernel⟩, aw_3 215 (by decide +kernel), aw_0 15 (by decide +kernel)⟩
theorem g_X9_exploreAll : GV yX9_exploreAll cX9_exploreAll 1 (Option.none : Option Jvm.ClassFile.FieldType) 0 := ⟨⟨aw_5 30 (by decide +kernel), aw_1 1 (by decide +kernel), by decide +kernel, by decide +kernel⟩, aw_5 29 (by decide +kernel), aw_0 18 (by decide +kernel)⟩
theorem gm_abs : Cond.static Lib.Math.abs.name ∈ AW ∧ Cond.initialized "java/lang/Math" ∈ AW ∧ Cond.code Lib.Math.abs.name Lib.Math.abs.code 1 (some .int) ∈ AW := ⟨aw_2 153 (by decide +kernel), aw_1 13 (by decide +kernel), aw_2 154 (by decide +kernel)⟩
theorem gm_arraycopy : Cond.native arraycopyName ∈ AW ∧ Cond.static arraycopyName ∈ AW ∧ Cond.initialized "java/lang/System" ∈ AW := ⟨aw_2 176 (by decide +kernel), aw_2 175 (by decide +kernel), aw_1 14 (by decide +kernel)⟩
theorem gm_max : Cond.static Lib.Math.max.name ∈ AW ∧ Cond.initialized "java/lang/Math" ∈ AW ∧ Cond.code Lib.Math.max.name Lib.Math.max.code 2 (some .int) ∈ AW := ⟨aw_2 160 (by decide +kernel), aw_1 13 (by decide +kernel), aw_2 161 (by decide +kernel)⟩
theorem gm_min : Cond.static Lib.Math.min.name ∈ AW ∧ Cond.initialized "java/lang/Math" ∈ AW ∧ Cond.code Lib.Math.min.name Lib.Math.min.code 2 (some .int) ∈ AW := ⟨aw_3 233 (by decide +kernel), aw_1 13 (by decide +kernel), aw_3 234 (by decide +kernel)⟩
theorem kc_J6_265 : Cond.constant RJ6 265 (1431655765) ∈ AW := aw_4 5 (by decide +kernel)
theorem kc_J6_266 : Cond.constant RJ6 266 (858993459) ∈ AW := aw_4 6 (by decide +kernel)
theorem kc_J6_267 : Cond.constant RJ6 267 (252645135) ∈ AW := aw_4 7 (by decide +kernel)
theorem kc_X10_241 : Cond.constant RX10 241 (2147483647) ∈ AW := aw_7 44 (by decide +kernel)
theorem kc_X10_273 : Cond.constant RX10 273 (1103515245) ∈ AW := aw_7 141 (by decide +kernel)
theorem kc_X5_24 : Cond.constant RX5 24 (1103515245) ∈ AW := aw_3 53 (by decide +kernel)
theorem kc_X5_25 : Cond.constant RX5 25 (2147483647) ∈ AW := aw_3 54 (by decide +kernel)
theorem kc_X7_41 : Cond.constant RX7 41 (1000000) ∈ AW := aw_5 36 (by decide +kernel)
theorem kc_X8_157 : Cond.constant RX8 157 (1000000) ∈ AW := aw_4 127 (by decide +kernel)
theorem kc_X9_201 : Cond.constant RX9 201 (2147483647) ∈ AW := aw_4 157 (by decide +kernel)
theorem kc_X9_250 : Cond.constant RX9 250 (1000000) ∈ AW := aw_3 31 (by decide +kernel)
theorem ml_X0_25 : Cond.methodLink RX0 25 yX0_put ∈ AW := aw_5 157 (by decide +kernel)
theorem ml_X0_32 : Cond.methodLink RX0 32 yX4_isMember ∈ AW := aw_5 161 (by decide +kernel)
theorem ml_X0_39 : Cond.methodLink RX0 39 yX0_putNumber ∈ AW := aw_5 162 (by decide +kernel)
theorem ml_X0_45 : Cond.methodLink RX0 45 Lib.Math.abs.name ∈ AW := aw_5 166 (by decide +kernel)
theorem ml_X10_126 : Cond.methodLink RX10 126 yX10_has ∈ AW := aw_6 155 (by decide +kernel)
theorem ml_X10_130 : Cond.methodLink RX10 130 yX10_pairsAlike ∈ AW := aw_6 151 (by decide +kernel)
theorem ml_X10_134 : Cond.methodLink RX10 134 yX10_sumOf ∈ AW := aw_6 158 (by decide +kernel)
theorem ml_X10_138 : Cond.methodLink RX10 138 yX10_notAscending ∈ AW := aw_6 162 (by decide +kernel)
theorem ml_X10_141 : Cond.methodLink RX10 141 yX10_pairsNear ∈ AW := aw_6 166 (by decide +kernel)
theorem ml_X10_144 : Cond.methodLink RX10 144 yX10_violationOf ∈ AW := aw_6 147 (by decide +kernel)
theorem ml_X10_159 : Cond.methodLink RX10 159 yX10_costOf ∈ AW := aw_6 143 (by decide +kernel)
theorem ml_X10_163 : Cond.methodLink RX10 163 yX10_keepsBest ∈ AW := aw_6 170 (by decide +kernel)
theorem ml_X10_175 : Cond.methodLink RX10 175 yX10_allowsAll ∈ AW := aw_6 139 (by decide +kernel)
theorem ml_X10_185 : Cond.methodLink RX10 185 yX10_hands ∈ AW := aw_6 193 (by decide +kernel)
theorem ml_X10_192 : Cond.methodLink RX10 192 yX10_handsAll ∈ AW := aw_6 189 (by decide +kernel)
theorem ml_X10_196 : Cond.methodLink RX10 196 yX10_begins ∈ AW := aw_6 135 (by decide +kernel)
theorem ml_X10_199 : Cond.methodLink RX10 199 yX10_isBetween ∈ AW := aw_6 178 (by decide +kernel)
theorem ml_X10_203 : Cond.methodLink RX10 203 yX10_fails ∈ AW := aw_6 181 (by decide +kernel)
theorem ml_X10_207 : Cond.methodLink RX10 207 yX10_remembers ∈ AW := aw_6 185 (by decide +kernel)
theorem ml_X10_210 : Cond.methodLink RX10 210 yX10_comesVariable ∈ AW := aw_6 197 (by decide +kernel)
theorem ml_X10_214 : Cond.methodLink RX10 214 yX10_isVariable ∈ AW := aw_6 205 (by decide +kernel)
theorem ml_X10_218 : Cond.methodLink RX10 218 yX10_doExist ∈ AW := aw_6 213 (by decide +kernel)
theorem ml_X10_221 : Cond.methodLink RX10 221 yX10_membersOf ∈ AW := aw_6 217 (by decide +kernel)
theorem ml_X10_224 : Cond.methodLink RX10 224 yX10_comesConstraint ∈ AW := aw_6 220 (by decide +kernel)
theorem ml_X10_228 : Cond.methodLink RX10 228 yX10_isConstraint ∈ AW := aw_6 228 (by decide +kernel)
theorem ml_X10_231 : Cond.methodLink RX10 231 yX10_isIn ∈ AW := aw_7 0 (by decide +kernel)
theorem ml_X10_234 : Cond.methodLink RX10 234 yX10_combinations ∈ AW := aw_7 8 (by decide +kernel)
theorem ml_X10_238 : Cond.methodLink RX10 238 yX10_conflictOf ∈ AW := aw_7 20 (by decide +kernel)
theorem ml_X10_242 : Cond.methodLink RX10 242 yX10_findThen ∈ AW := aw_7 81 (by decide +kernel)
theorem ml_X10_248 : Cond.methodLink RX10 248 yX10_isForbiddenNow ∈ AW := aw_7 85 (by decide +kernel)
theorem ml_X10_251 : Cond.methodLink RX10 251 yX10_lists ∈ AW := aw_7 77 (by decide +kernel)
theorem ml_X10_254 : Cond.methodLink RX10 254 yX10_listsSets ∈ AW := aw_7 73 (by decide +kernel)
theorem ml_X10_257 : Cond.methodLink RX10 257 yX10_listsSwaps ∈ AW := aw_7 89 (by decide +kernel)
theorem ml_X10_260 : Cond.methodLink RX10 260 yX10_listsRotations ∈ AW := aw_7 93 (by decide +kernel)
theorem ml_X10_263 : Cond.methodLink RX10 263 yX10_findMoves ∈ AW := aw_7 69 (by decide +kernel)
theorem ml_X10_266 : Cond.methodLink RX10 266 yX10_leastMove ∈ AW := aw_7 105 (by decide +kernel)
theorem ml_X10_270 : Cond.methodLink RX10 270 yX10_counts ∈ AW := aw_7 133 (by decide +kernel)
theorem ml_X10_274 : Cond.methodLink RX10 274 yX10_logs ∈ AW := aw_7 125 (by decide +kernel)
theorem ml_X10_277 : Cond.methodLink RX10 277 yX10_takesMove ∈ AW := aw_7 129 (by decide +kernel)
theorem ml_X10_280 : Cond.methodLink RX10 280 yX10_restarts ∈ AW := aw_7 137 (by decide +kernel)
theorem ml_X10_282 : Cond.methodLink RX10 282 yX10_steps ∈ AW := aw_7 121 (by decide +kernel)
theorem ml_X10_295 : Cond.methodLink RX10 295 yX10_violatedBy ∈ AW := aw_7 178 (by decide +kernel)
theorem ml_X10_301 : Cond.methodLink RX10 301 yX10_goesOn ∈ AW := aw_7 182 (by decide +kernel)
theorem ml_X10_304 : Cond.methodLink RX10 304 yX10_findsAll ∈ AW := aw_7 174 (by decide +kernel)
theorem ml_X10_313 : Cond.methodLink RX10 313 yX10_isNext ∈ AW := aw_7 222 (by decide +kernel)
theorem ml_X10_319 : Cond.methodLink RX10 319 yX10_skips ∈ AW := aw_7 218 (by decide +kernel)
theorem ml_X10_322 : Cond.methodLink RX10 322 yX10_takesMembers ∈ AW := aw_7 226 (by decide +kernel)
theorem ml_X10_325 : Cond.methodLink RX10 325 yX10_takesNumber ∈ AW := aw_7 230 (by decide +kernel)
theorem ml_X10_328 : Cond.methodLink RX10 328 yX10_takesEntry ∈ AW := aw_7 214 (by decide +kernel)
theorem ml_X10_331 : Cond.methodLink RX10 331 yX10_takesText ∈ AW := aw_7 210 (by decide +kernel)
theorem ml_X10_334 : Cond.methodLink RX10 334 yX10_comesAll ∈ AW := aw_7 234 (by decide +kernel)
theorem ml_X10_340 : Cond.methodLink RX10 340 yX10_tells ∈ AW := aw_8 10 (by decide +kernel)
theorem ml_X10_343 : Cond.methodLink RX10 343 yX10_findTold ∈ AW := aw_8 6 (by decide +kernel)
theorem ml_X1_25 : Cond.methodLink RX1 25 yX4_copyFrom ∈ AW := aw_3 168 (by decide +kernel)
theorem ml_X2_38 : Cond.methodLink RX2 38 yX2_parseEntry ∈ AW := aw_5 99 (by decide +kernel)
theorem ml_X2_42 : Cond.methodLink RX2 42 yX2_take ∈ AW := aw_5 103 (by decide +kernel)
theorem ml_X2_46 : Cond.methodLink RX2 46 yX2_parseSize ∈ AW := aw_5 107 (by decide +kernel)
theorem ml_X2_49 : Cond.methodLink RX2 49 yX2_parseKind ∈ AW := aw_5 111 (by decide +kernel)
theorem ml_X2_52 : Cond.methodLink RX2 52 yX2_parseMembers ∈ AW := aw_5 115 (by decide +kernel)
theorem ml_X2_55 : Cond.methodLink RX2 55 yX2_parseNumber ∈ AW := aw_5 119 (by decide +kernel)
theorem ml_X2_58 : Cond.methodLink RX2 58 yX2_parseWeight ∈ AW := aw_5 124 (by decide +kernel)
theorem ml_X2_61 : Cond.methodLink RX2 61 Lib.Math.min.name ∈ AW := aw_5 123 (by decide +kernel)
theorem ml_X2_78 : Cond.methodLink RX2 78 yX4_putVariable ∈ AW := aw_5 137 (by decide +kernel)
theorem ml_X2_82 : Cond.methodLink RX2 82 yX4_putConstraint ∈ AW := aw_5 138 (by decide +kernel)
theorem ml_X3_20 : Cond.methodLink RX3 20 yX3_putSets ∈ AW := aw_2 203 (by decide +kernel)
theorem ml_X3_24 : Cond.methodLink RX3 24 yX3_putSwaps ∈ AW := aw_2 211 (by decide +kernel)
theorem ml_X3_27 : Cond.methodLink RX3 27 yX3_putShifts ∈ AW := aw_2 218 (by decide +kernel)
theorem ml_X3_30 : Cond.methodLink RX3 30 yX3_putRotations ∈ AW := aw_2 222 (by decide +kernel)
theorem ml_X3_45 : Cond.methodLink RX3 45 yX3_put ∈ AW := aw_2 207 (by decide +kernel)
theorem ml_X3_49 : Cond.methodLink RX3 49 yX3_fits ∈ AW := aw_2 215 (by decide +kernel)
theorem ml_X3_53 : Cond.methodLink RX3 53 yX3_isRotation ∈ AW := aw_2 226 (by decide +kernel)
theorem ml_X3_57 : Cond.methodLink RX3 57 arraycopyName ∈ AW := aw_3 1 (by decide +kernel)
theorem ml_X3_63 : Cond.methodLink RX3 63 yX3_shifted ∈ AW := aw_3 2 (by decide +kernel)
theorem ml_X4_40 : Cond.methodLink RX4 40 arraycopyName ∈ AW := aw_2 194 (by decide +kernel)
theorem ml_X4_46 : Cond.methodLink RX4 46 yX4_costIn ∈ AW := aw_2 136 (by decide +kernel)
theorem ml_X4_50 : Cond.methodLink RX4 50 yX4_violationIn ∈ AW := aw_2 140 (by decide +kernel)
theorem ml_X4_54 : Cond.methodLink RX4 54 yX4_isMember ∈ AW := aw_4 77 (by decide +kernel)
theorem ml_X4_58 : Cond.methodLink RX4 58 yX4_gather ∈ AW := aw_2 144 (by decide +kernel)
theorem ml_X4_61 : Cond.methodLink RX4 61 yX4_closePairs ∈ AW := aw_2 148 (by decide +kernel)
theorem ml_X4_65 : Cond.methodLink RX4 65 yX4_sum ∈ AW := aw_2 155 (by decide +kernel)
theorem ml_X4_69 : Cond.methodLink RX4 69 Lib.Math.max.name ∈ AW := aw_2 159 (by decide +kernel)
theorem ml_X4_74 : Cond.methodLink RX4 74 Lib.Math.abs.name ∈ AW := aw_2 152 (by decide +kernel)
theorem ml_X4_77 : Cond.methodLink RX4 77 yX4_descents ∈ AW := aw_2 162 (by decide +kernel)
theorem ml_X4_80 : Cond.methodLink RX4 80 yX4_zeros ∈ AW := aw_2 166 (by decide +kernel)
theorem ml_X6_26 : Cond.methodLink RX6 26 yX6_partAt ∈ AW := aw_5 19 (by decide +kernel)
theorem ml_X7_35 : Cond.methodLink RX7 35 yJ7_fill_53178 ∈ AW := aw_5 35 (by decide +kernel)
theorem ml_X7_42 : Cond.methodLink RX7 42 yX4_combinations ∈ AW := aw_5 37 (by decide +kernel)
theorem ml_X7_48 : Cond.methodLink RX7 48 yX7_weigh ∈ AW := aw_5 38 (by decide +kernel)
theorem ml_X7_52 : Cond.methodLink RX7 52 yX7_advance ∈ AW := aw_5 45 (by decide +kernel)
theorem ml_X7_58 : Cond.methodLink RX7 58 yX4_violationIn ∈ AW := aw_5 42 (by decide +kernel)
theorem ml_X7_65 : Cond.methodLink RX7 65 Lib.Math.max.name ∈ AW := aw_5 43 (by decide +kernel)
theorem ml_X7_71 : Cond.methodLink RX7 71 arraycopyName ∈ AW := aw_5 44 (by decide +kernel)
theorem ml_X8_102 : Cond.methodLink RX8 102 yX8_costAfter ∈ AW := aw_2 233 (by decide +kernel)
theorem ml_X8_106 : Cond.methodLink RX8 106 yX8_isTrialHeld ∈ AW := aw_3 6 (by decide +kernel)
theorem ml_X8_110 : Cond.methodLink RX8 110 yX3_fill ∈ AW := aw_3 26 (by decide +kernel)
theorem ml_X8_112 : Cond.methodLink RX8 112 yX8_cheapest ∈ AW := aw_3 22 (by decide +kernel)
theorem ml_X8_116 : Cond.methodLink RX8 116 yX4_takeValues ∈ AW := aw_3 36 (by decide +kernel)
theorem ml_X8_120 : Cond.methodLink RX8 120 yX8_keepIfBest ∈ AW := aw_3 37 (by decide +kernel)
theorem ml_X8_131 : Cond.methodLink RX8 131 yX8_banLeftValues ∈ AW := aw_4 194 (by decide +kernel)
theorem ml_X8_134 : Cond.methodLink RX8 134 yX6_put ∈ AW := aw_4 199 (by decide +kernel)
theorem ml_X8_141 : Cond.methodLink RX8 141 yX8_startAnew ∈ AW := aw_4 203 (by decide +kernel)
theorem ml_X8_145 : Cond.methodLink RX8 145 Lib.Math.max.name ∈ AW := aw_4 198 (by decide +kernel)
theorem ml_X8_151 : Cond.methodLink RX8 151 yX5_nextSeed ∈ AW := aw_3 49 (by decide +kernel)
theorem ml_X8_158 : Cond.methodLink RX8 158 Lib.Math.min.name ∈ AW := aw_4 128 (by decide +kernel)
theorem ml_X8_53 : Cond.methodLink RX8 53 yX6_forget ∈ AW := aw_2 121 (by decide +kernel)
theorem ml_X8_56 : Cond.methodLink RX8 56 yX8_freeAll ∈ AW := aw_2 125 (by decide +kernel)
theorem ml_X8_59 : Cond.methodLink RX8 59 yX4_presentCost ∈ AW := aw_2 132 (by decide +kernel)
theorem ml_X8_65 : Cond.methodLink RX8 65 yX8_keepBest ∈ AW := aw_2 170 (by decide +kernel)
theorem ml_X8_72 : Cond.methodLink RX8 72 arraycopyName ∈ AW := aw_2 174 (by decide +kernel)
theorem ml_X8_78 : Cond.methodLink RX8 78 yJ7_fill_53178 ∈ AW := aw_2 129 (by decide +kernel)
theorem ml_X8_84 : Cond.methodLink RX8 84 yX3_tryOut ∈ AW := aw_2 237 (by decide +kernel)
theorem ml_X8_88 : Cond.methodLink RX8 88 yX4_costIn ∈ AW := aw_3 5 (by decide +kernel)
theorem ml_X8_95 : Cond.methodLink RX8 95 yX8_isBanned ∈ AW := aw_3 10 (by decide +kernel)
theorem ml_X9_108 : Cond.methodLink RX9 108 Lib.Math.min.name ∈ AW := aw_3 232 (by decide +kernel)
theorem ml_X9_114 : Cond.methodLink RX9 114 yX9_checkRange ∈ AW := aw_3 79 (by decide +kernel)
theorem ml_X9_118 : Cond.methodLink RX9 118 yJ6_bitCount_0f7a4 ∈ AW := aw_4 2 (by decide +kernel)
theorem ml_X9_124 : Cond.methodLink RX9 124 yX9_areMembers ∈ AW := aw_4 8 (by decide +kernel)
theorem ml_X9_134 : Cond.methodLink RX9 134 yX4_putConstraint ∈ AW := aw_4 11 (by decide +kernel)
theorem ml_X9_138 : Cond.methodLink RX9 138 yX9_checkConstraint ∈ AW := aw_4 22 (by decide +kernel)
theorem ml_X9_141 : Cond.methodLink RX9 141 yX4_dropConstraint ∈ AW := aw_4 26 (by decide +kernel)
theorem ml_X9_147 : Cond.methodLink RX9 147 yX4_violatedConstraints ∈ AW := aw_4 51 (by decide +kernel)
theorem ml_X9_151 : Cond.methodLink RX9 151 yX4_combinations ∈ AW := aw_4 55 (by decide +kernel)
theorem ml_X9_166 : Cond.methodLink RX9 166 yX4_conflictOf ∈ AW := aw_4 73 (by decide +kernel)
theorem ml_X9_169 : Cond.methodLink RX9 169 yX4_membershipsOf ∈ AW := aw_4 81 (by decide +kernel)
theorem ml_X9_172 : Cond.methodLink RX9 172 yX4_presentCost ∈ AW := aw_2 181 (by decide +kernel)
theorem ml_X9_178 : Cond.methodLink RX9 178 yX4_violationIn ∈ AW := aw_4 92 (by decide +kernel)
theorem ml_X9_185 : Cond.methodLink RX9 185 yX8_reliefOf ∈ AW := aw_4 123 (by decide +kernel)
theorem ml_X9_189 : Cond.methodLink RX9 189 yX4_takeValues ∈ AW := aw_2 190 (by decide +kernel)
theorem ml_X9_209 : Cond.methodLink RX9 209 yX3_fill ∈ AW := aw_2 199 (by decide +kernel)
theorem ml_X9_215 : Cond.methodLink RX9 215 yX8_heldMoves ∈ AW := aw_2 229 (by decide +kernel)
theorem ml_X9_229 : Cond.methodLink RX9 229 yX8_costAfter ∈ AW := aw_4 165 (by decide +kernel)
theorem ml_X9_232 : Cond.methodLink RX9 232 yX8_isTrialHeld ∈ AW := aw_4 166 (by decide +kernel)
theorem ml_X9_236 : Cond.methodLink RX9 236 yX8_cheapest ∈ AW := aw_4 174 (by decide +kernel)
theorem ml_X9_240 : Cond.methodLink RX9 240 yX8_isBanned ∈ AW := aw_4 182 (by decide +kernel)
theorem ml_X9_243 : Cond.methodLink RX9 243 yX8_downhill ∈ AW := aw_3 18 (by decide +kernel)
theorem ml_X9_246 : Cond.methodLink RX9 246 yX8_tryStep ∈ AW := aw_4 190 (by decide +kernel)
theorem ml_X9_251 : Cond.methodLink RX9 251 yX8_goDown ∈ AW := aw_3 32 (by decide +kernel)
theorem ml_X9_254 : Cond.methodLink RX9 254 yX8_startAnew ∈ AW := aw_3 45 (by decide +kernel)
theorem ml_X9_277 : Cond.methodLink RX9 277 yX6_partAt ∈ AW := aw_4 225 (by decide +kernel)
theorem ml_X9_283 : Cond.methodLink RX9 283 yX6_improvements ∈ AW := aw_5 15 (by decide +kernel)
theorem ml_X9_286 : Cond.methodLink RX9 286 yX9_exploreAll ∈ AW := aw_5 27 (by decide +kernel)
theorem ml_X9_307 : Cond.methodLink RX9 307 yX2_put ∈ AW := aw_5 84 (by decide +kernel)
theorem ml_X9_311 : Cond.methodLink RX9 311 yX2_parse ∈ AW := aw_5 95 (by decide +kernel)
theorem ml_X9_318 : Cond.methodLink RX9 318 yX2_fits ∈ AW := aw_5 128 (by decide +kernel)
theorem ml_X9_322 : Cond.methodLink RX9 322 yX2_addTo ∈ AW := aw_5 133 (by decide +kernel)
theorem ml_X9_328 : Cond.methodLink RX9 328 yX0_write ∈ AW := aw_5 153 (by decide +kernel)
theorem ml_X9_337 : Cond.methodLink RX9 337 yX1_bringBack ∈ AW := aw_5 174 (by decide +kernel)
theorem ml_X9_340 : Cond.methodLink RX9 340 yX4_copyFrom ∈ AW := aw_3 63 (by decide +kernel)
theorem ml_X9_343 : Cond.methodLink RX9 343 yX8_begin ∈ AW := aw_2 117 (by decide +kernel)
theorem ml_X9_349 : Cond.methodLink RX9 349 yX7_explore ∈ AW := aw_5 31 (by decide +kernel)
theorem ml_X9_72 : Cond.methodLink RX9 72 yX4_removeAll ∈ AW := aw_2 101 (by decide +kernel)
theorem ml_X9_75 : Cond.methodLink RX9 75 yX1_forget ∈ AW := aw_2 105 (by decide +kernel)
theorem ml_X9_78 : Cond.methodLink RX9 78 yX5_reset ∈ AW := aw_2 109 (by decide +kernel)
theorem ml_X9_81 : Cond.methodLink RX9 81 yX9_beginSearch ∈ AW := aw_2 113 (by decide +kernel)
theorem ml_X9_84 : Cond.methodLink RX9 84 yX9_checkSize ∈ AW := aw_3 76 (by decide +kernel)
theorem ml_X9_91 : Cond.methodLink RX9 91 yX1_remember ∈ AW := aw_3 164 (by decide +kernel)
theorem ml_X9_95 : Cond.methodLink RX9 95 yX4_putVariable ∈ AW := aw_3 169 (by decide +kernel)
theorem ml_X9_98 : Cond.methodLink RX9 98 yX9_checkVariable ∈ AW := aw_3 213 (by decide +kernel)
set_option maxRecDepth 100000 in
theorem th_X9_128 : TH RX9 128 130 "java/lang/IllegalArgumentException" ["java/lang/RuntimeException", "java/lang/Exception"] := ⟨by decide +kernel, by decide +kernel, aw_3 82 (by decide +kernel), aw_1 18 (by decide +kernel), by decide +kernel, by decide +kernel⟩
set_option maxRecDepth 100000 in
theorem th_X9_182 : TH RX9 182 184 "java/util/NoSuchElementException" ["java/lang/RuntimeException", "java/lang/Exception"] := ⟨by decide +kernel, by decide +kernel, aw_4 101 (by decide +kernel), aw_1 24 (by decide +kernel), by decide +kernel, by decide +kernel⟩
set_option maxRecDepth 100000 in
theorem th_X9_222 : TH RX9 222 224 "java/lang/IndexOutOfBoundsException" ["java/lang/RuntimeException", "java/lang/Exception"] := ⟨by decide +kernel, by decide +kernel, aw_3 217 (by decide +kernel), aw_1 20 (by decide +kernel), by decide +kernel, by decide +kernel⟩
set_option maxRecDepth 100000 in
theorem th_X9_280 : TH RX9 280 282 "java/lang/ArithmeticException" ["java/lang/RuntimeException", "java/lang/Exception"] := ⟨by decide +kernel, by decide +kernel, aw_5 10 (by decide +kernel), aw_1 25 (by decide +kernel), by decide +kernel, by decide +kernel⟩
set_option maxRecDepth 100000 in
theorem th_X9_88 : TH RX9 88 90 "java/lang/IllegalStateException" ["java/lang/RuntimeException", "java/lang/Exception"] := ⟨by decide +kernel, by decide +kernel, aw_3 149 (by decide +kernel), aw_1 19 (by decide +kernel), by decide +kernel, by decide +kernel⟩
