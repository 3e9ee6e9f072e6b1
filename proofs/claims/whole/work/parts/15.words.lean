theorem kw_0 : Cond.methodLink RX1 9 yX1_turnings ∈ ds_gw := ds_g (ds_t2 165 (by decide +kernel)) rfl
theorem kw_1 : Cond.static yX1_turnings ∈ ds_gw := ds_g (ds_t2 166 (by decide +kernel)) rfl
theorem kw_2 : Cond.initialized RX1 ∈ ds_gw := ds_g (ds_t1 14 (by decide +kernel)) rfl
theorem kw_3 : Cond.code yX1_turnings cX1_turnings 1 (some .int) ∈ ds_gw := ds_g (ds_t2 167 (by decide +kernel)) rfl
theorem kw_4 : Cond.methodLink RX1 13 yX1_turns ∈ ds_gw := ds_g (ds_t2 179 (by decide +kernel)) rfl
theorem kw_5 : Cond.static yX1_turns ∈ ds_gw := ds_g (ds_t2 180 (by decide +kernel)) rfl
theorem kw_6 : Cond.code yX1_turns cX1_turns 1 (some .int) ∈ ds_gw := ds_g (ds_t2 181 (by decide +kernel)) rfl
theorem kw_7 : Cond.methodLink RX1 16 yX1_isFlip ∈ ds_gw := ds_g (ds_t2 176 (by decide +kernel)) rfl
theorem kw_8 : Cond.static yX1_isFlip ∈ ds_gw := ds_g (ds_t2 177 (by decide +kernel)) rfl
theorem kw_9 : Cond.code yX1_isFlip cX1_isFlip 2 (some .boolean) ∈ ds_gw := ds_g (ds_t2 178 (by decide +kernel)) rfl
theorem kw_10 : Cond.methodLink RX1 20 yX1_lineOf ∈ ds_gw := ds_g (ds_t2 185 (by decide +kernel)) rfl
theorem kw_11 : Cond.static yX1_lineOf ∈ ds_gw := ds_g (ds_t2 186 (by decide +kernel)) rfl
theorem kw_12 : Cond.code yX1_lineOf cX1_lineOf 2 (some .int) ∈ ds_gw := ds_g (ds_t2 187 (by decide +kernel)) rfl
theorem kw_13 : Cond.fieldLink RX1 24 "OrnamentDesk$Net" "TABLE" "[I" ∈ ds_gw := ds_g (ds_t2 188 (by decide +kernel)) rfl
theorem kw_14 : Cond.methodLink RX1 28 yX1_entry ∈ ds_gw := ds_g (ds_t2 190 (by decide +kernel)) rfl
theorem kw_15 : Cond.static yX1_entry ∈ ds_gw := ds_g (ds_t2 191 (by decide +kernel)) rfl
theorem kw_16 : Cond.code yX1_entry cX1_entry 2 (some .int) ∈ ds_gw := ds_g (ds_t2 192 (by decide +kernel)) rfl
theorem kw_17 : Cond.constantLong RJ13 314 (6148914691236517205) ∈ ds_gw := ds_g (ds_t3 28 (by decide +kernel)) rfl
theorem kw_18 : Cond.constantLong RJ13 316 (3689348814741910323) ∈ ds_gw := ds_g (ds_t3 29 (by decide +kernel)) rfl
theorem kw_19 : Cond.constantLong RJ13 318 (1085102592571150095) ∈ ds_gw := ds_g (ds_t3 30 (by decide +kernel)) rfl
theorem kw_20 : Cond.constant RJ6 265 (1431655765) ∈ ds_gw := ds_g (ds_t3 102 (by decide +kernel)) rfl
theorem kw_21 : Cond.constant RJ6 266 (858993459) ∈ ds_gw := ds_g (ds_t3 103 (by decide +kernel)) rfl
theorem kw_22 : Cond.constant RJ6 267 (252645135) ∈ ds_gw := ds_g (ds_t3 104 (by decide +kernel)) rfl
theorem kw_23 : Cond.fieldLink RX1 32 "OrnamentDesk$Net" "ACROSS" "[I" ∈ ds_gw := ds_g (ds_t3 163 (by decide +kernel)) rfl
theorem kw_24 : Cond.fieldLink RJ0 38 "java/lang/String" "COMPACT_STRINGS" "Z" ∈ ds_gw := ds_g (ds_t2 21 (by decide +kernel)) rfl
theorem kw_25 : Cond.fieldLink RJ0 15 "java/lang/String" "coder" "B" ∈ ds_gw := ds_g (ds_t6 164 (by decide +kernel)) rfl
theorem kw_26 : Cond.fieldLink RJ0 9 "java/lang/String" "value" "[B" ∈ ds_gw := ds_g (ds_t6 163 (by decide +kernel)) rfl
theorem kw_27 : Cond.methodLink RJ0 335 yJ0_coder_7d493 ∈ ds_gw := ds_g (ds_t2 17 (by decide +kernel)) rfl
theorem kw_28 : Cond.instanceMethod yJ0_coder_7d493 ∈ ds_gw := ds_g (ds_t2 18 (by decide +kernel)) rfl
theorem kw_29 : Cond.selects RJ0 yJ0_coder_7d493 yJ0_coder_7d493 ∈ ds_gw := ds_g (ds_t2 19 (by decide +kernel)) rfl
theorem kw_30 : Cond.initialized RJ0 ∈ ds_gw := ds_g (ds_t1 9 (by decide +kernel)) rfl
theorem kw_31 : Cond.code yJ0_coder_7d493 cJ0_coder_7d493 1 (some .byte) ∈ ds_gw := ds_g (ds_t2 20 (by decide +kernel)) rfl
theorem kw_32 : Cond.fieldLink RJ0 1053 "jdk/internal/util/Preconditions" "SIOOBE_FORMATTER" "Ljava/util/function/BiFunction;" ∈ ds_gw := ds_g (ds_t2 37 (by decide +kernel)) rfl
theorem kw_33 : Cond.methodLink RJ0 1059 yJ3_checkIndex_8e157 ∈ ds_gw := ds_g (ds_t2 39 (by decide +kernel)) rfl
theorem kw_34 : Cond.static yJ3_checkIndex_8e157 ∈ ds_gw := ds_g (ds_t2 40 (by decide +kernel)) rfl
theorem kw_35 : Cond.initialized RJ3 ∈ ds_gw := ds_g (ds_t1 11 (by decide +kernel)) rfl
theorem kw_36 : Cond.code yJ3_checkIndex_8e157 cJ3_checkIndex_8e157 3 (some .int) ∈ ds_gw := ds_g (ds_t2 41 (by decide +kernel)) rfl
theorem kw_37 : Cond.methodLink RJ1 9 yJ0_checkIndex_df160 ∈ ds_gw := ds_g (ds_t2 34 (by decide +kernel)) rfl
theorem kw_38 : Cond.static yJ0_checkIndex_df160 ∈ ds_gw := ds_g (ds_t2 35 (by decide +kernel)) rfl
theorem kw_39 : Cond.code yJ0_checkIndex_df160 cJ0_checkIndex_df160 2 none ∈ ds_gw := ds_g (ds_t2 36 (by decide +kernel)) rfl
theorem kw_40 : Cond.methodLink RJ0 492 yJ0_isLatin1_aae02 ∈ ds_gw := ds_g (ds_t2 27 (by decide +kernel)) rfl
theorem kw_41 : Cond.instanceMethod yJ0_isLatin1_aae02 ∈ ds_gw := ds_g (ds_t2 28 (by decide +kernel)) rfl
theorem kw_42 : Cond.selects RJ0 yJ0_isLatin1_aae02 yJ0_isLatin1_aae02 ∈ ds_gw := ds_g (ds_t2 29 (by decide +kernel)) rfl
theorem kw_43 : Cond.code yJ0_isLatin1_aae02 cJ0_isLatin1_aae02 1 (some .boolean) ∈ ds_gw := ds_g (ds_t2 30 (by decide +kernel)) rfl
theorem kw_44 : Cond.methodLink RJ0 495 yJ1_charAt_3b067 ∈ ds_gw := ds_g (ds_t2 31 (by decide +kernel)) rfl
theorem kw_45 : Cond.static yJ1_charAt_3b067 ∈ ds_gw := ds_g (ds_t2 32 (by decide +kernel)) rfl
theorem kw_46 : Cond.initialized RJ1 ∈ ds_gw := ds_g (ds_t1 10 (by decide +kernel)) rfl
theorem kw_47 : Cond.code yJ1_charAt_3b067 cJ1_charAt_3b067 2 (some .char) ∈ ds_gw := ds_g (ds_t2 33 (by decide +kernel)) rfl
theorem kw_48 : Cond.fieldLink RX6 9 "OrnamentDesk$Tile" "wide" "I" ∈ ds_gw := ds_g (ds_t1 41 (by decide +kernel)) rfl
theorem kw_49 : u_lay RX6 TX6 0 ∈ ds_gw := ds_g (ds_t1 57 (by decide +kernel)) rfl
theorem kw_50 : u_lay RX6 TX6 1 ∈ ds_gw := ds_g (ds_t1 59 (by decide +kernel)) rfl
theorem kw_51 : u_lay RX6 TX6 2 ∈ ds_gw := ds_g (ds_t1 61 (by decide +kernel)) rfl
theorem kw_52 : u_lay RX6 TX6 3 ∈ ds_gw := ds_g (ds_t1 63 (by decide +kernel)) rfl
theorem kw_53 : u_lay RX6 TX6 4 ∈ ds_gw := ds_g (ds_t1 65 (by decide +kernel)) rfl
theorem kc_X6 : ∀ w ∈ u_ws RX6 TX6 5, w ∈ ds_gw := by
  intro w h
  obtain ⟨k, hk, rfl⟩ := List.mem_map.mp h
  have hk := List.mem_range.mp hk
  match k, hk with
  | 0, _ => exact kw_49
  | 1, _ => exact kw_50
  | 2, _ => exact kw_51
  | 3, _ => exact kw_52
  | 4, _ => exact kw_53
  | n + 5, hk => exact absurd hk (by omega)
theorem kw_54 : Cond.fieldLink RX6 15 "OrnamentDesk$Tile" "high" "I" ∈ ds_gw := ds_g (ds_t1 45 (by decide +kernel)) rfl
theorem kw_55 : Cond.fieldLink RX6 18 "OrnamentDesk$Tile" "hex" "Z" ∈ ds_gw := ds_g (ds_t1 50 (by decide +kernel)) rfl
theorem kw_56 : Cond.methodLink RX6 29 yX6_sizedAs ∈ ds_gw := ds_g (ds_t2 119 (by decide +kernel)) rfl
theorem kw_57 : Cond.instanceMethod yX6_sizedAs ∈ ds_gw := ds_g (ds_t2 120 (by decide +kernel)) rfl
theorem kw_58 : Cond.selects RX6 yX6_sizedAs yX6_sizedAs ∈ ds_gw := ds_g (ds_t2 121 (by decide +kernel)) rfl
theorem kw_59 : Cond.initialized RX6 ∈ ds_gw := ds_g (ds_t1 3 (by decide +kernel)) rfl
theorem kw_60 : Cond.code yX6_sizedAs cX6_sizedAs 2 (some .boolean) ∈ ds_gw := ds_g (ds_t2 122 (by decide +kernel)) rfl
theorem kw_61 : Cond.fieldLink RX6 22 "OrnamentDesk$Tile" "ones" "J" ∈ ds_gw := ds_g (ds_t1 53 (by decide +kernel)) rfl
theorem kw_62 : Cond.fieldLink RX6 26 "OrnamentDesk$Tile" "twos" "J" ∈ ds_gw := ds_g (ds_t1 55 (by decide +kernel)) rfl
theorem kw_63 : Cond.constantLong RX6 33 (72340172838076673) ∈ ds_gw := ds_g (ds_t2 153 (by decide +kernel)) rfl
theorem kw_64 : Cond.constantLong RX6 35 (-1) ∈ ds_gw := ds_g (ds_t2 77 (by decide +kernel)) rfl
theorem kw_65 : Cond.methodLink RX6 48 yX6_all ∈ ds_gw := ds_g (ds_t2 149 (by decide +kernel)) rfl
theorem kw_66 : Cond.instanceMethod yX6_all ∈ ds_gw := ds_g (ds_t2 150 (by decide +kernel)) rfl
theorem kw_67 : Cond.selects RX6 yX6_all yX6_all ∈ ds_gw := ds_g (ds_t2 151 (by decide +kernel)) rfl
theorem kw_68 : Cond.code yX6_all cX6_all 5 (some .long) ∈ ds_gw := ds_g (ds_t2 152 (by decide +kernel)) rfl
theorem kw_69 : Cond.methodLinkNest RX6 37 yX7_rest "OrnamentDesk" ∈ ds_nw := ds_n (ds_t2 142 (by decide +kernel)) rfl
theorem kw_70 : Cond.code yX7_rest cX7_rest 3 (some .int) ∈ ds_gw := ds_g (ds_t2 144 (by decide +kernel)) rfl
theorem kw_71 : Cond.initialized RX7 ∈ ds_gw := ds_g (ds_t1 1 (by decide +kernel)) rfl
theorem kw_72 : Cond.static yX7_rest ∈ ds_gw := ds_g (ds_t2 143 (by decide +kernel)) rfl
theorem kw_73 : Cond.methodLink RX6 62 yX6_rolledDown ∈ ds_gw := ds_g (ds_t2 145 (by decide +kernel)) rfl
theorem kw_74 : Cond.instanceMethod yX6_rolledDown ∈ ds_gw := ds_g (ds_t2 147 (by decide +kernel)) rfl
theorem kw_75 : Cond.selects RX6 yX6_rolledDown yX6_rolledDown ∈ ds_gw := ds_g (ds_sel (y := yX6_rolledDown) 5 (ds_p1 8 (by decide +kernel))) rfl
theorem kw_76 : Cond.code yX6_rolledDown cX6_rolledDown 4 (some .long) ∈ ds_gw := ds_g (ds_t2 148 (by decide +kernel)) rfl
theorem kw_77 : Cond.methodLink RX6 66 yX6_rolledAlong ∈ ds_gw := ds_g (ds_t2 154 (by decide +kernel)) rfl
theorem kw_78 : Cond.instanceMethod yX6_rolledAlong ∈ ds_gw := ds_g (ds_t2 156 (by decide +kernel)) rfl
theorem kw_79 : Cond.selects RX6 yX6_rolledAlong yX6_rolledAlong ∈ ds_gw := ds_g (ds_sel (y := yX6_rolledAlong) 5 (ds_p1 9 (by decide +kernel))) rfl
theorem kw_80 : Cond.code yX6_rolledAlong cX6_rolledAlong 6 (some .long) ∈ ds_gw := ds_g (ds_t2 157 (by decide +kernel)) rfl
theorem kw_81 : Cond.methodLink RX6 69 yX6_rolled ∈ ds_gw := ds_g (ds_t2 200 (by decide +kernel)) rfl
theorem kw_82 : Cond.instanceMethod yX6_rolled ∈ ds_gw := ds_g (ds_t2 139 (by decide +kernel)) rfl
theorem kw_83 : Cond.selects RX6 yX6_rolled yX6_rolled ∈ ds_gw := ds_g (ds_t2 140 (by decide +kernel)) rfl
theorem kw_84 : Cond.code yX6_rolled cX6_rolled 5 (some .long) ∈ ds_gw := ds_g (ds_t2 141 (by decide +kernel)) rfl
theorem kw_85 : Cond.methodLink RX6 77 yX6_clear ∈ ds_gw := ds_g (ds_t2 172 (by decide +kernel)) rfl
theorem kw_86 : Cond.instanceMethod yX6_clear ∈ ds_gw := ds_g (ds_t1 226 (by decide +kernel)) rfl
theorem kw_87 : Cond.selects RX6 yX6_clear yX6_clear ∈ ds_gw := ds_g (ds_t1 227 (by decide +kernel)) rfl
theorem kw_88 : Cond.code yX6_clear cX6_clear 4 none ∈ ds_gw := ds_g (ds_t1 228 (by decide +kernel)) rfl
theorem kw_89 : Cond.methodLink RX6 81 yX1_inverse ∈ ds_gw := ds_g (ds_t2 173 (by decide +kernel)) rfl
theorem kw_90 : Cond.static yX1_inverse ∈ ds_gw := ds_g (ds_t2 174 (by decide +kernel)) rfl
theorem kw_91 : Cond.code yX1_inverse cX1_inverse 2 (some .int) ∈ ds_gw := ds_g (ds_t2 175 (by decide +kernel)) rfl
theorem kw_92 : Cond.methodLink RX6 87 yX1_turnedX ∈ ds_gw := ds_g (ds_t2 182 (by decide +kernel)) rfl
theorem kw_93 : Cond.static yX1_turnedX ∈ ds_gw := ds_g (ds_t2 183 (by decide +kernel)) rfl
theorem kw_94 : Cond.code yX1_turnedX cX1_turnedX 5 (some .int) ∈ ds_gw := ds_g (ds_t2 184 (by decide +kernel)) rfl
theorem kw_95 : Cond.methodLink RX6 91 yX1_turnedY ∈ ds_gw := ds_g (ds_t2 193 (by decide +kernel)) rfl
theorem kw_96 : Cond.static yX1_turnedY ∈ ds_gw := ds_g (ds_t2 194 (by decide +kernel)) rfl
theorem kw_97 : Cond.code yX1_turnedY cX1_turnedY 5 (some .int) ∈ ds_gw := ds_g (ds_t2 195 (by decide +kernel)) rfl
theorem kw_98 : Cond.methodLink RX6 73 yX6_comesAgainBy ∈ ds_gw := ds_g (ds_t2 196 (by decide +kernel)) rfl
theorem kw_99 : Cond.instanceMethod yX6_comesAgainBy ∈ ds_gw := ds_g (ds_t2 197 (by decide +kernel)) rfl
theorem kw_100 : Cond.selects RX6 yX6_comesAgainBy yX6_comesAgainBy ∈ ds_gw := ds_g (ds_t2 198 (by decide +kernel)) rfl
theorem kw_101 : Cond.code yX6_comesAgainBy cX6_comesAgainBy 3 (some .boolean) ∈ ds_gw := ds_g (ds_t2 199 (by decide +kernel)) rfl
theorem kw_102 : Cond.methodLink RX6 41 yX6_bit ∈ ds_gw := ds_g (ds_t3 73 (by decide +kernel)) rfl
theorem kw_103 : Cond.static yX6_bit ∈ ds_gw := ds_g (ds_t2 71 (by decide +kernel)) rfl
theorem kw_104 : Cond.code yX6_bit cX6_bit 2 (some .long) ∈ ds_gw := ds_g (ds_t2 72 (by decide +kernel)) rfl
theorem kw_105 : Cond.methodLink RX6 52 yX6_ofColour ∈ ds_gw := ds_g (ds_t3 24 (by decide +kernel)) rfl
theorem kw_106 : Cond.instanceMethod yX6_ofColour ∈ ds_gw := ds_g (ds_t2 206 (by decide +kernel)) rfl
theorem kw_107 : Cond.selects RX6 yX6_ofColour yX6_ofColour ∈ ds_gw := ds_g (ds_t2 207 (by decide +kernel)) rfl
theorem kw_108 : Cond.code yX6_ofColour cX6_ofColour 6 (some .long) ∈ ds_gw := ds_g (ds_t2 208 (by decide +kernel)) rfl
theorem kw_109 : Cond.methodLink RX6 56 yJ13_bitCount_95d88 ∈ ds_gw := ds_g (ds_t3 25 (by decide +kernel)) rfl
theorem kw_110 : Cond.static yJ13_bitCount_95d88 ∈ ds_gw := ds_g (ds_t3 26 (by decide +kernel)) rfl
theorem kw_111 : Cond.initialized RJ13 ∈ ds_gw := ds_g (ds_t1 15 (by decide +kernel)) rfl
theorem kw_112 : Cond.code yJ13_bitCount_95d88 cJ13_bitCount_95d88 2 (some .int) ∈ ds_gw := ds_g (ds_t3 27 (by decide +kernel)) rfl
theorem kw_113 : Cond.methodLink RX6 45 yX6_bitOfPlane ∈ ds_gw := ds_g (ds_t3 206 (by decide +kernel)) rfl
theorem kw_114 : Cond.instanceMethod yX6_bitOfPlane ∈ ds_gw := ds_g (ds_t3 130 (by decide +kernel)) rfl
theorem kw_115 : Cond.selects RX6 yX6_bitOfPlane yX6_bitOfPlane ∈ ds_gw := ds_g (ds_t3 131 (by decide +kernel)) rfl
theorem kw_116 : Cond.code yX6_bitOfPlane cX6_bitOfPlane 3 (some .long) ∈ ds_gw := ds_g (ds_t3 132 (by decide +kernel)) rfl
theorem kw_117 : Cond.fieldLink RX0 27 "OrnamentDesk$Group" "looked" "Z" ∈ ds_gw := ds_g (ds_t1 153 (by decide +kernel)) rfl
theorem kw_118 : u_lay RX0 TX0 0 ∈ ds_gw := ds_g (ds_t1 163 (by decide +kernel)) rfl
theorem kw_119 : u_lay RX0 TX0 1 ∈ ds_gw := ds_g (ds_t1 165 (by decide +kernel)) rfl
theorem kw_120 : u_lay RX0 TX0 2 ∈ ds_gw := ds_g (ds_t1 167 (by decide +kernel)) rfl
theorem kw_121 : u_lay RX0 TX0 3 ∈ ds_gw := ds_g (ds_t1 169 (by decide +kernel)) rfl
theorem kw_122 : u_lay RX0 TX0 4 ∈ ds_gw := ds_g (ds_t1 171 (by decide +kernel)) rfl
theorem kw_123 : u_lay RX0 TX0 5 ∈ ds_gw := ds_g (ds_t1 173 (by decide +kernel)) rfl
theorem kw_124 : u_lay RX0 TX0 6 ∈ ds_gw := ds_g (ds_t1 175 (by decide +kernel)) rfl
theorem kw_125 : u_lay RX0 TX0 7 ∈ ds_gw := ds_g (ds_t1 177 (by decide +kernel)) rfl
theorem kw_126 : u_lay RX0 TX0 8 ∈ ds_gw := ds_g (ds_t1 179 (by decide +kernel)) rfl
theorem kc_X0 : ∀ w ∈ u_ws RX0 TX0 9, w ∈ ds_gw := by
  intro w h
  obtain ⟨k, hk, rfl⟩ := List.mem_map.mp h
  have hk := List.mem_range.mp hk
  match k, hk with
  | 0, _ => exact kw_118
  | 1, _ => exact kw_119
  | 2, _ => exact kw_120
  | 3, _ => exact kw_121
  | 4, _ => exact kw_122
  | 5, _ => exact kw_123
  | 6, _ => exact kw_124
  | 7, _ => exact kw_125
  | 8, _ => exact kw_126
  | n + 9, hk => exact absurd hk (by omega)
theorem kw_127 : Cond.fieldLink RX0 54 "OrnamentDesk$Group" "stepsFound" "Z" ∈ ds_gw := ds_g (ds_t1 154 (by decide +kernel)) rfl
theorem kw_128 : Cond.fieldLink RX0 23 "OrnamentDesk$Group" "found" "[J" ∈ ds_gw := ds_g (ds_t1 152 (by decide +kernel)) rfl
theorem kw_129 : Cond.fieldLink RX0 12 "OrnamentDesk$Group" "seen" "LOrnamentDesk$Tile;" ∈ ds_gw := ds_g (ds_t1 150 (by decide +kernel)) rfl
theorem kw_130 : Cond.fieldLink RX0 18 "OrnamentDesk$Group" "turned" "LOrnamentDesk$Tile;" ∈ ds_gw := ds_g (ds_t1 151 (by decide +kernel)) rfl
theorem kw_131 : Cond.methodLink RX0 50 yX6_stepsFrom ∈ ds_gw := ds_g (ds_t3 69 (by decide +kernel)) rfl
theorem kw_132 : Cond.instanceMethod yX6_stepsFrom ∈ ds_gw := ds_g (ds_t3 70 (by decide +kernel)) rfl
theorem kw_133 : Cond.selects RX6 yX6_stepsFrom yX6_stepsFrom ∈ ds_gw := ds_g (ds_t3 71 (by decide +kernel)) rfl
theorem kw_134 : Cond.code yX6_stepsFrom cX6_stepsFrom 10 (some .long) ∈ ds_gw := ds_g (ds_t3 72 (by decide +kernel)) rfl
theorem kw_135 : Cond.fieldLinkNest RX0 39 "OrnamentDesk$Tile" "hex" "Z" "OrnamentDesk" ∈ ds_nw := ds_n (ds_t1 49 (by decide +kernel)) rfl
theorem kw_136 : Cond.methodLink RX0 42 yX1_isTurning ∈ ds_gw := ds_g (ds_t3 67 (by decide +kernel)) rfl
theorem kw_137 : Cond.static yX1_isTurning ∈ ds_gw := ds_g (ds_t2 163 (by decide +kernel)) rfl
theorem kw_138 : Cond.code yX1_isTurning cX1_isTurning 2 (some .boolean) ∈ ds_gw := ds_g (ds_t2 164 (by decide +kernel)) rfl
theorem kw_139 : Cond.methodLink RX0 46 yX6_turnFrom ∈ ds_gw := ds_g (ds_t3 68 (by decide +kernel)) rfl
theorem kw_140 : Cond.instanceMethod yX6_turnFrom ∈ ds_gw := ds_g (ds_t2 169 (by decide +kernel)) rfl
theorem kw_141 : Cond.selects RX6 yX6_turnFrom yX6_turnFrom ∈ ds_gw := ds_g (ds_t2 170 (by decide +kernel)) rfl
theorem kw_142 : Cond.code yX6_turnFrom cX6_turnFrom 13 (some .boolean) ∈ ds_gw := ds_g (ds_t2 171 (by decide +kernel)) rfl
theorem kw_143 : Cond.methodLink RX0 35 yX6_copyFrom ∈ ds_gw := ds_g (ds_t3 66 (by decide +kernel)) rfl
theorem kw_144 : Cond.instanceMethod yX6_copyFrom ∈ ds_gw := ds_g (ds_t2 82 (by decide +kernel)) rfl
theorem kw_145 : Cond.selects RX6 yX6_copyFrom yX6_copyFrom ∈ ds_gw := ds_g (ds_t2 83 (by decide +kernel)) rfl
theorem kw_146 : Cond.code yX6_copyFrom cX6_copyFrom 2 none ∈ ds_gw := ds_g (ds_t2 84 (by decide +kernel)) rfl
theorem kw_147 : Cond.methodLink RX0 31 yX6_same ∈ ds_gw := ds_g (ds_t3 65 (by decide +kernel)) rfl
theorem kw_148 : Cond.instanceMethod yX6_same ∈ ds_gw := ds_g (ds_t2 116 (by decide +kernel)) rfl
theorem kw_149 : Cond.selects RX6 yX6_same yX6_same ∈ ds_gw := ds_g (ds_t2 117 (by decide +kernel)) rfl
theorem kw_150 : Cond.code yX6_same cX6_same 2 (some .boolean) ∈ ds_gw := ds_g (ds_t2 118 (by decide +kernel)) rfl
theorem kw_151 : Cond.methodLink RX0 57 yX0_shiftsFor ∈ ds_gw := ds_g (ds_t3 78 (by decide +kernel)) rfl
theorem kw_152 : Cond.instanceMethod yX0_shiftsFor ∈ ds_gw := ds_g (ds_t3 79 (by decide +kernel)) rfl
theorem kw_153 : Cond.selects RX0 yX0_shiftsFor yX0_shiftsFor ∈ ds_gw := ds_g (ds_t3 80 (by decide +kernel)) rfl
theorem kw_154 : Cond.initialized RX0 ∈ ds_gw := ds_g (ds_t1 7 (by decide +kernel)) rfl
theorem kw_155 : Cond.code yX0_shiftsFor cX0_shiftsFor 2 (some .long) ∈ ds_gw := ds_g (ds_t3 81 (by decide +kernel)) rfl
theorem kw_156 : Cond.methodLink RX0 61 yX6_bitOfPlane ∈ ds_gw := ds_g (ds_t3 129 (by decide +kernel)) rfl
theorem kw_157 : Cond.methodLink RX0 65 yX1_isFlip ∈ ds_gw := ds_g (ds_t3 141 (by decide +kernel)) rfl
theorem kw_158 : Cond.methodLink RX0 68 yJ13_bitCount_95d88 ∈ ds_gw := ds_g (ds_t3 82 (by decide +kernel)) rfl
theorem kw_159 : Cond.methodLink RX0 74 yX0_span ∈ ds_gw := ds_g (ds_t3 87 (by decide +kernel)) rfl
theorem kw_160 : Cond.instanceMethod yX0_span ∈ ds_gw := ds_g (ds_t3 75 (by decide +kernel)) rfl
theorem kw_161 : Cond.selects RX0 yX0_span yX0_span ∈ ds_gw := ds_g (ds_t3 76 (by decide +kernel)) rfl
theorem kw_162 : Cond.code yX0_span cX0_span 1 (some .int) ∈ ds_gw := ds_g (ds_t3 77 (by decide +kernel)) rfl
theorem kw_163 : Cond.methodLink RX0 78 yX6_cells ∈ ds_gw := ds_g (ds_t3 88 (by decide +kernel)) rfl
theorem kw_164 : Cond.instanceMethod yX6_cells ∈ ds_gw := ds_g (ds_t2 90 (by decide +kernel)) rfl
theorem kw_165 : Cond.selects RX6 yX6_cells yX6_cells ∈ ds_gw := ds_g (ds_t2 91 (by decide +kernel)) rfl
theorem kw_166 : Cond.code yX6_cells cX6_cells 1 (some .int) ∈ ds_gw := ds_g (ds_t2 92 (by decide +kernel)) rfl
theorem kw_167 : Cond.methodLink RX0 81 yX1_turnings ∈ ds_gw := ds_g (ds_t3 98 (by decide +kernel)) rfl
theorem kw_168 : Cond.methodLink RX0 85 yX1_turns ∈ ds_gw := ds_g (ds_t3 93 (by decide +kernel)) rfl
theorem kw_169 : Cond.methodLink RX0 88 yX0_turningBits ∈ ds_gw := ds_g (ds_t3 94 (by decide +kernel)) rfl
theorem kw_170 : Cond.instanceMethod yX0_turningBits ∈ ds_gw := ds_g (ds_t3 95 (by decide +kernel)) rfl
theorem kw_171 : Cond.selects RX0 yX0_turningBits yX0_turningBits ∈ ds_gw := ds_g (ds_t3 96 (by decide +kernel)) rfl
theorem kw_172 : Cond.code yX0_turningBits cX0_turningBits 3 (some .int) ∈ ds_gw := ds_g (ds_t3 97 (by decide +kernel)) rfl
theorem kw_173 : Cond.methodLink RX0 91 yJ6_bitCount_0f7a4 ∈ ds_gw := ds_g (ds_t3 99 (by decide +kernel)) rfl
theorem kw_174 : Cond.static yJ6_bitCount_0f7a4 ∈ ds_gw := ds_g (ds_t3 100 (by decide +kernel)) rfl
theorem kw_175 : Cond.initialized RJ6 ∈ ds_gw := ds_g (ds_t1 16 (by decide +kernel)) rfl
theorem kw_176 : Cond.code yJ6_bitCount_0f7a4 cJ6_bitCount_0f7a4 1 (some .int) ∈ ds_gw := ds_g (ds_t3 101 (by decide +kernel)) rfl
theorem kw_177 : Cond.methodLink RX0 96 yX0_order ∈ ds_gw := ds_g (ds_t3 113 (by decide +kernel)) rfl
theorem kw_178 : Cond.instanceMethod yX0_order ∈ ds_gw := ds_g (ds_t3 90 (by decide +kernel)) rfl
theorem kw_179 : Cond.selects RX0 yX0_order yX0_order ∈ ds_gw := ds_g (ds_t3 91 (by decide +kernel)) rfl
theorem kw_180 : Cond.code yX0_order cX0_order 2 (some .int) ∈ ds_gw := ds_g (ds_t3 92 (by decide +kernel)) rfl
theorem kw_181 : Cond.methodLink RX0 119 yX0_hasSymmetry ∈ ds_gw := ds_g (ds_t3 125 (by decide +kernel)) rfl
theorem kw_182 : Cond.instanceMethod yX0_hasSymmetry ∈ ds_gw := ds_g (ds_t3 127 (by decide +kernel)) rfl
theorem kw_183 : Cond.selects RX0 yX0_hasSymmetry yX0_hasSymmetry ∈ ds_gw := ds_g (ds_sel (y := yX0_hasSymmetry) 9 (ds_p1 12 (by decide +kernel))) rfl
theorem kw_184 : Cond.code yX0_hasSymmetry cX0_hasSymmetry 4 (some .boolean) ∈ ds_gw := ds_g (ds_t3 128 (by decide +kernel)) rfl
theorem kw_185 : Cond.methodLink RX0 112 yX1_acrossX ∈ ds_gw := ds_g (ds_t3 160 (by decide +kernel)) rfl
theorem kw_186 : Cond.static yX1_acrossX ∈ ds_gw := ds_g (ds_t3 161 (by decide +kernel)) rfl
theorem kw_187 : Cond.code yX1_acrossX cX1_acrossX 2 (some .int) ∈ ds_gw := ds_g (ds_t3 162 (by decide +kernel)) rfl
theorem kw_188 : Cond.methodLink RX0 116 yX1_acrossY ∈ ds_gw := ds_g (ds_t3 165 (by decide +kernel)) rfl
theorem kw_189 : Cond.static yX1_acrossY ∈ ds_gw := ds_g (ds_t3 166 (by decide +kernel)) rfl
theorem kw_190 : Cond.code yX1_acrossY cX1_acrossY 2 (some .int) ∈ ds_gw := ds_g (ds_t3 167 (by decide +kernel)) rfl
theorem kw_191 : Cond.methodLink RX0 99 yX0_hasFlip ∈ ds_gw := ds_g (ds_t3 137 (by decide +kernel)) rfl
theorem kw_192 : Cond.instanceMethod yX0_hasFlip ∈ ds_gw := ds_g (ds_t3 138 (by decide +kernel)) rfl
theorem kw_193 : Cond.selects RX0 yX0_hasFlip yX0_hasFlip ∈ ds_gw := ds_g (ds_t3 139 (by decide +kernel)) rfl
theorem kw_194 : Cond.code yX0_hasFlip cX0_hasFlip 2 (some .boolean) ∈ ds_gw := ds_g (ds_t3 140 (by decide +kernel)) rfl
theorem kw_195 : Cond.methodLink RX0 103 yX0_isMirror ∈ ds_gw := ds_g (ds_t3 156 (by decide +kernel)) rfl
theorem kw_196 : Cond.instanceMethod yX0_isMirror ∈ ds_gw := ds_g (ds_t3 157 (by decide +kernel)) rfl
theorem kw_197 : Cond.selects RX0 yX0_isMirror yX0_isMirror ∈ ds_gw := ds_g (ds_t3 158 (by decide +kernel)) rfl
theorem kw_198 : Cond.code yX0_isMirror cX0_isMirror 5 (some .boolean) ∈ ds_gw := ds_g (ds_t3 159 (by decide +kernel)) rfl
theorem kw_199 : Cond.methodLink RX0 150 yX1_lengthOf ∈ ds_gw := ds_g (ds_t3 122 (by decide +kernel)) rfl
theorem kw_200 : Cond.static yX1_lengthOf ∈ ds_gw := ds_g (ds_t3 123 (by decide +kernel)) rfl
theorem kw_201 : Cond.code yX1_lengthOf cX1_lengthOf 3 (some .int) ∈ ds_gw := ds_g (ds_t3 124 (by decide +kernel)) rfl
theorem kw_202 : Cond.fieldLink RX0 127 "OrnamentDesk$Group" "firstY" "I" ∈ ds_gw := ds_g (ds_t1 157 (by decide +kernel)) rfl
theorem kw_203 : Cond.fieldLink RX0 123 "OrnamentDesk$Group" "firstX" "I" ∈ ds_gw := ds_g (ds_t1 155 (by decide +kernel)) rfl
theorem kw_204 : Cond.fieldLink RX0 133 "OrnamentDesk$Group" "secondX" "I" ∈ ds_gw := ds_g (ds_t1 159 (by decide +kernel)) rfl
theorem kw_205 : Cond.fieldLink RX0 136 "OrnamentDesk$Group" "secondY" "I" ∈ ds_gw := ds_g (ds_t1 161 (by decide +kernel)) rfl
theorem kw_206 : Cond.methodLink RX0 146 yX0_comesAhead ∈ ds_gw := ds_g (ds_t3 118 (by decide +kernel)) rfl
theorem kw_207 : Cond.instanceMethod yX0_comesAhead ∈ ds_gw := ds_g (ds_t3 120 (by decide +kernel)) rfl
theorem kw_208 : Cond.selects RX0 yX0_comesAhead yX0_comesAhead ∈ ds_gw := ds_g (ds_sel (y := yX0_comesAhead) 9 (ds_p1 11 (by decide +kernel))) rfl
theorem kw_209 : Cond.code yX0_comesAhead cX0_comesAhead 7 (some .boolean) ∈ ds_gw := ds_g (ds_t3 121 (by decide +kernel)) rfl
theorem kw_210 : Cond.methodLink RX0 139 yX1_turnedX ∈ ds_gw := ds_g (ds_t3 150 (by decide +kernel)) rfl
theorem kw_211 : Cond.methodLink RX0 143 yX1_turnedY ∈ ds_gw := ds_g (ds_t3 151 (by decide +kernel)) rfl
theorem kw_212 : Cond.methodLink RX0 130 yX0_hasHalfSum ∈ ds_gw := ds_g (ds_t3 146 (by decide +kernel)) rfl
theorem kw_213 : Cond.instanceMethod yX0_hasHalfSum ∈ ds_gw := ds_g (ds_t3 148 (by decide +kernel)) rfl
theorem kw_214 : Cond.selects RX0 yX0_hasHalfSum yX0_hasHalfSum ∈ ds_gw := ds_g (ds_sel (y := yX0_hasHalfSum) 9 (ds_p1 14 (by decide +kernel))) rfl
theorem kw_215 : Cond.code yX0_hasHalfSum cX0_hasHalfSum 6 (some .boolean) ∈ ds_gw := ds_g (ds_t3 149 (by decide +kernel)) rfl
theorem kw_216 : Cond.methodLink RX0 109 yX0_isParted ∈ ds_gw := ds_g (ds_t3 142 (by decide +kernel)) rfl
theorem kw_217 : Cond.instanceMethod yX0_isParted ∈ ds_gw := ds_g (ds_t3 144 (by decide +kernel)) rfl
theorem kw_218 : Cond.selects RX0 yX0_isParted yX0_isParted ∈ ds_gw := ds_g (ds_sel (y := yX0_isParted) 9 (ds_p1 13 (by decide +kernel))) rfl
theorem kw_219 : Cond.code yX0_isParted cX0_isParted 2 (some .boolean) ∈ ds_gw := ds_g (ds_t3 145 (by decide +kernel)) rfl
theorem kw_220 : Cond.methodLink RX0 106 yX0_findSteps ∈ ds_gw := ds_g (ds_t3 114 (by decide +kernel)) rfl
theorem kw_221 : Cond.instanceMethod yX0_findSteps ∈ ds_gw := ds_g (ds_t3 115 (by decide +kernel)) rfl
theorem kw_222 : Cond.selects RX0 yX0_findSteps yX0_findSteps ∈ ds_gw := ds_g (ds_t3 116 (by decide +kernel)) rfl
theorem kw_223 : Cond.code yX0_findSteps cX0_findSteps 3 none ∈ ds_gw := ds_g (ds_t3 117 (by decide +kernel)) rfl
theorem kw_224 : Cond.methodLink RX0 170 yX0_hasFlipRound ∈ ds_gw := ds_g (ds_t3 172 (by decide +kernel)) rfl
theorem kw_225 : Cond.instanceMethod yX0_hasFlipRound ∈ ds_gw := ds_g (ds_t3 174 (by decide +kernel)) rfl
theorem kw_226 : Cond.selects RX0 yX0_hasFlipRound yX0_hasFlipRound ∈ ds_gw := ds_g (ds_sel (y := yX0_hasFlipRound) 9 (ds_p2 0 (by decide +kernel))) rfl
theorem kw_227 : Cond.code yX0_hasFlipRound cX0_hasFlipRound 5 (some .boolean) ∈ ds_gw := ds_g (ds_t3 175 (by decide +kernel)) rfl
theorem kw_228 : Cond.methodLink RX0 157 yX0_crossed ∈ ds_gw := ds_g (ds_t3 133 (by decide +kernel)) rfl
theorem kw_229 : Cond.instanceMethod yX0_crossed ∈ ds_gw := ds_g (ds_t3 134 (by decide +kernel)) rfl
theorem kw_230 : Cond.selects RX0 yX0_crossed yX0_crossed ∈ ds_gw := ds_g (ds_t3 135 (by decide +kernel)) rfl
theorem kw_231 : Cond.code yX0_crossed cX0_crossed 3 (some .int) ∈ ds_gw := ds_g (ds_t3 136 (by decide +kernel)) rfl
theorem kw_232 : Cond.methodLink RX0 160 yX0_mirrors ∈ ds_gw := ds_g (ds_t3 152 (by decide +kernel)) rfl
theorem kw_233 : Cond.instanceMethod yX0_mirrors ∈ ds_gw := ds_g (ds_t3 153 (by decide +kernel)) rfl
theorem kw_234 : Cond.selects RX0 yX0_mirrors yX0_mirrors ∈ ds_gw := ds_g (ds_t3 154 (by decide +kernel)) rfl
theorem kw_235 : Cond.code yX0_mirrors cX0_mirrors 3 (some .int) ∈ ds_gw := ds_g (ds_t3 155 (by decide +kernel)) rfl
theorem kw_236 : Cond.methodLink RX0 163 yX0_turnsShortestRound ∈ ds_gw := ds_g (ds_t3 168 (by decide +kernel)) rfl
theorem kw_237 : Cond.instanceMethod yX0_turnsShortestRound ∈ ds_gw := ds_g (ds_t3 170 (by decide +kernel)) rfl
theorem kw_238 : Cond.selects RX0 yX0_turnsShortestRound yX0_turnsShortestRound ∈ ds_gw := ds_g (ds_sel (y := yX0_turnsShortestRound) 9 (ds_p1 15 (by decide +kernel))) rfl
theorem kw_239 : Cond.code yX0_turnsShortestRound cX0_turnsShortestRound 5 (some .boolean) ∈ ds_gw := ds_g (ds_t3 171 (by decide +kernel)) rfl
theorem kw_240 : Cond.methodLink RX0 167 yX0_keepsFirstByMirror ∈ ds_gw := ds_g (ds_t3 176 (by decide +kernel)) rfl
theorem kw_241 : Cond.instanceMethod yX0_keepsFirstByMirror ∈ ds_gw := ds_g (ds_t3 178 (by decide +kernel)) rfl
theorem kw_242 : Cond.selects RX0 yX0_keepsFirstByMirror yX0_keepsFirstByMirror ∈ ds_gw := ds_g (ds_sel (y := yX0_keepsFirstByMirror) 9 (ds_p2 1 (by decide +kernel))) rfl
theorem kw_243 : Cond.code yX0_keepsFirstByMirror cX0_keepsFirstByMirror 3 (some .boolean) ∈ ds_gw := ds_g (ds_t3 179 (by decide +kernel)) rfl
theorem kw_244 : Cond.methodLink RX0 154 yX0_flips ∈ ds_gw := ds_g (ds_t3 109 (by decide +kernel)) rfl
theorem kw_245 : Cond.instanceMethod yX0_flips ∈ ds_gw := ds_g (ds_t3 110 (by decide +kernel)) rfl
theorem kw_246 : Cond.selects RX0 yX0_flips yX0_flips ∈ ds_gw := ds_g (ds_t3 111 (by decide +kernel)) rfl
theorem kw_247 : Cond.code yX0_flips cX0_flips 1 (some .int) ∈ ds_gw := ds_g (ds_t3 112 (by decide +kernel)) rfl
theorem kw_248 : Cond.methodLink RX0 174 yX0_leavesPoint ∈ ds_gw := ds_g (ds_t3 229 (by decide +kernel)) rfl
theorem kw_249 : Cond.instanceMethod yX0_leavesPoint ∈ ds_gw := ds_g (ds_t3 231 (by decide +kernel)) rfl
theorem kw_250 : Cond.selects RX0 yX0_leavesPoint yX0_leavesPoint ∈ ds_gw := ds_g (ds_sel (y := yX0_leavesPoint) 9 (ds_p2 3 (by decide +kernel))) rfl
theorem kw_251 : Cond.code yX0_leavesPoint cX0_leavesPoint 6 (some .boolean) ∈ ds_gw := ds_g (ds_t3 232 (by decide +kernel)) rfl
theorem kw_252 : Cond.methodLink RX0 189 yX6_rolled ∈ ds_gw := ds_g (ds_t3 192 (by decide +kernel)) rfl
theorem kw_253 : Cond.fieldLinkNest RX0 180 "OrnamentDesk$Tile" "wide" "I" "OrnamentDesk" ∈ ds_nw := ds_n (ds_t1 44 (by decide +kernel)) rfl
theorem kw_254 : Cond.methodLink RX0 183 yX6_bit ∈ ds_gw := ds_g (ds_t3 187 (by decide +kernel)) rfl
theorem kw_255 : Cond.methodLink RX0 186 yX0_allOfKind ∈ ds_gw := ds_g (ds_t3 188 (by decide +kernel)) rfl
theorem kw_256 : Cond.instanceMethod yX0_allOfKind ∈ ds_gw := ds_g (ds_t3 190 (by decide +kernel)) rfl
theorem kw_257 : Cond.selects RX0 yX0_allOfKind yX0_allOfKind ∈ ds_gw := ds_g (ds_sel (y := yX0_allOfKind) 9 (ds_p2 2 (by decide +kernel))) rfl
theorem kw_258 : Cond.code yX0_allOfKind cX0_allOfKind 10 (some .long) ∈ ds_gw := ds_g (ds_t3 191 (by decide +kernel)) rfl
theorem kw_259 : Cond.fieldLinkNest RX0 177 "OrnamentDesk$Tile" "high" "I" "OrnamentDesk" ∈ ds_nw := ds_n (ds_t1 48 (by decide +kernel)) rfl
theorem kw_260 : Cond.methodLink RX0 196 yX6_ofColour ∈ ds_gw := ds_g (ds_t4 27 (by decide +kernel)) rfl
theorem kw_261 : Cond.methodLink RX0 199 yX0_isAllOfOneColour ∈ ds_gw := ds_g (ds_t4 28 (by decide +kernel)) rfl
theorem kw_262 : Cond.instanceMethod yX0_isAllOfOneColour ∈ ds_gw := ds_g (ds_t4 30 (by decide +kernel)) rfl
theorem kw_263 : Cond.selects RX0 yX0_isAllOfOneColour yX0_isAllOfOneColour ∈ ds_gw := ds_g (ds_sel (y := yX0_isAllOfOneColour) 9 (ds_p2 7 (by decide +kernel))) rfl
theorem kw_264 : Cond.code yX0_isAllOfOneColour cX0_isAllOfOneColour 4 (some .boolean) ∈ ds_gw := ds_g (ds_t4 31 (by decide +kernel)) rfl
theorem kw_265 : Cond.methodLink RX0 193 yX0_keepsColoursApart ∈ ds_gw := ds_g (ds_t4 23 (by decide +kernel)) rfl
theorem kw_266 : Cond.instanceMethod yX0_keepsColoursApart ∈ ds_gw := ds_g (ds_t4 25 (by decide +kernel)) rfl
theorem kw_267 : Cond.selects RX0 yX0_keepsColoursApart yX0_keepsColoursApart ∈ ds_gw := ds_g (ds_sel (y := yX0_keepsColoursApart) 9 (ds_p2 6 (by decide +kernel))) rfl
theorem kw_268 : Cond.code yX0_keepsColoursApart cX0_keepsColoursApart 6 (some .boolean) ∈ ds_gw := ds_g (ds_t4 26 (by decide +kernel)) rfl
theorem kw_269 : Cond.fieldLink RX2 15 "OrnamentDesk$Orbits" "MAKERS" "[I" ∈ ds_gw := ds_g (ds_t2 226 (by decide +kernel)) rfl
theorem kw_270 : Cond.methodLink RX2 19 yX2_maker ∈ ds_gw := ds_g (ds_t2 223 (by decide +kernel)) rfl
theorem kw_271 : Cond.static yX2_maker ∈ ds_gw := ds_g (ds_t2 224 (by decide +kernel)) rfl
theorem kw_272 : Cond.initialized RX2 ∈ ds_gw := ds_g (ds_t1 6 (by decide +kernel)) rfl
theorem kw_273 : Cond.code yX2_maker cX2_maker 3 (some .int) ∈ ds_gw := ds_g (ds_t2 225 (by decide +kernel)) rfl
theorem kw_274 : Cond.fieldLink RX2 9 "OrnamentDesk$Orbits" "members" "[J" ∈ ds_gw := ds_g (ds_t1 133 (by decide +kernel)) rfl
theorem kw_275 : u_lay RX2 TX2 0 ∈ ds_gw := ds_g (ds_t1 136 (by decide +kernel)) rfl
theorem kw_276 : u_lay RX2 TX2 1 ∈ ds_gw := ds_g (ds_t1 138 (by decide +kernel)) rfl
theorem kc_X2 : ∀ w ∈ u_ws RX2 TX2 2, w ∈ ds_gw := by
  intro w h
  obtain ⟨k, hk, rfl⟩ := List.mem_map.mp h
  have hk := List.mem_range.mp hk
  match k, hk with
  | 0, _ => exact kw_275
  | 1, _ => exact kw_276
  | n + 2, hk => exact absurd hk (by omega)
theorem kw_277 : Cond.methodLink RX2 35 yX1_turnedX ∈ ds_gw := ds_g (ds_t2 238 (by decide +kernel)) rfl
theorem kw_278 : Cond.methodLink RX2 41 yX1_turnedY ∈ ds_gw := ds_g (ds_t2 239 (by decide +kernel)) rfl
theorem kw_279 : Cond.methodLinkNest RX2 44 yX7_rest "OrnamentDesk" ∈ ds_nw := ds_n (ds_t3 0 (by decide +kernel)) rfl
theorem kw_280 : Cond.methodLink RX2 47 yX6_bit ∈ ds_gw := ds_g (ds_t3 1 (by decide +kernel)) rfl
theorem kw_281 : Cond.methodLink RX2 31 yX2_brought ∈ ds_gw := ds_g (ds_t2 235 (by decide +kernel)) rfl
theorem kw_282 : Cond.static yX2_brought ∈ ds_gw := ds_g (ds_t2 236 (by decide +kernel)) rfl
theorem kw_283 : Cond.code yX2_brought cX2_brought 8 (some .long) ∈ ds_gw := ds_g (ds_t2 237 (by decide +kernel)) rfl
theorem kw_284 : Cond.methodLink RX2 27 yX2_closed ∈ ds_gw := ds_g (ds_t2 232 (by decide +kernel)) rfl
theorem kw_285 : Cond.static yX2_closed ∈ ds_gw := ds_g (ds_t2 233 (by decide +kernel)) rfl
theorem kw_286 : Cond.code yX2_closed cX2_closed 10 (some .long) ∈ ds_gw := ds_g (ds_t2 234 (by decide +kernel)) rfl
theorem kw_287 : Cond.fieldLink RX2 23 "OrnamentDesk$Orbits" "size" "I" ∈ ds_gw := ds_g (ds_t1 134 (by decide +kernel)) rfl
theorem kw_288 : Cond.methodLink RX2 53 yX6_mostlyOf ∈ ds_gw := ds_g (ds_t3 20 (by decide +kernel)) rfl
theorem kw_289 : Cond.instanceMethod yX6_mostlyOf ∈ ds_gw := ds_g (ds_t3 21 (by decide +kernel)) rfl
theorem kw_290 : Cond.selects RX6 yX6_mostlyOf yX6_mostlyOf ∈ ds_gw := ds_g (ds_t3 22 (by decide +kernel)) rfl
theorem kw_291 : Cond.code yX6_mostlyOf cX6_mostlyOf 5 (some .int) ∈ ds_gw := ds_g (ds_t3 23 (by decide +kernel)) rfl
theorem kw_292 : Cond.methodLink RX2 57 yX6_ofColour ∈ ds_gw := ds_g (ds_t3 31 (by decide +kernel)) rfl
theorem kw_293 : Cond.constantLong RX2 61 (-1) ∈ ds_gw := ds_g (ds_t3 32 (by decide +kernel)) rfl
theorem kw_294 : Cond.methodLink RX2 63 yJ13_bitCount_95d88 ∈ ds_gw := ds_g (ds_t3 33 (by decide +kernel)) rfl
theorem kw_295 : Cond.fieldLink RX5 19 "OrnamentDesk$Script" "length" "I" ∈ ds_gw := ds_g (ds_t1 75 (by decide +kernel)) rfl
theorem kw_296 : u_lay RX5 TX5 0 ∈ ds_gw := ds_g (ds_t1 82 (by decide +kernel)) rfl
theorem kw_297 : u_lay RX5 TX5 1 ∈ ds_gw := ds_g (ds_t1 84 (by decide +kernel)) rfl
theorem kw_298 : u_lay RX5 TX5 2 ∈ ds_gw := ds_g (ds_t1 86 (by decide +kernel)) rfl
theorem kw_299 : u_lay RX5 TX5 3 ∈ ds_gw := ds_g (ds_t1 88 (by decide +kernel)) rfl
theorem kw_300 : u_lay RX5 TX5 4 ∈ ds_gw := ds_g (ds_t1 90 (by decide +kernel)) rfl
theorem kc_X5 : ∀ w ∈ u_ws RX5 TX5 5, w ∈ ds_gw := by
  intro w h
  obtain ⟨k, hk, rfl⟩ := List.mem_map.mp h
  have hk := List.mem_range.mp hk
  match k, hk with
  | 0, _ => exact kw_296
  | 1, _ => exact kw_297
  | 2, _ => exact kw_298
  | 3, _ => exact kw_299
  | 4, _ => exact kw_300
  | n + 5, hk => exact absurd hk (by omega)
theorem kw_301 : Cond.fieldLink RX5 22 "OrnamentDesk$Script" "fault" "I" ∈ ds_gw := ds_g (ds_t1 77 (by decide +kernel)) rfl
theorem kw_302 : Cond.fieldLink RX5 15 "OrnamentDesk$Script" "place" "I" ∈ ds_gw := ds_g (ds_t1 79 (by decide +kernel)) rfl
theorem kw_303 : Cond.fieldLink RX5 11 "OrnamentDesk$Script" "bytes" "[I" ∈ ds_gw := ds_g (ds_t1 74 (by decide +kernel)) rfl
theorem kw_304 : Cond.fieldLink RX3 10 "OrnamentDesk$Page" "tile" "LOrnamentDesk$Tile;" ∈ ds_gw := ds_g (ds_t1 94 (by decide +kernel)) rfl
theorem kw_305 : u_lay RX3 TX3 0 ∈ ds_gw := ds_g (ds_t1 99 (by decide +kernel)) rfl
theorem kw_306 : u_lay RX3 TX3 1 ∈ ds_gw := ds_g (ds_t1 101 (by decide +kernel)) rfl
theorem kw_307 : u_lay RX3 TX3 2 ∈ ds_gw := ds_g (ds_t1 103 (by decide +kernel)) rfl
theorem kc_X3 : ∀ w ∈ u_ws RX3 TX3 3, w ∈ ds_gw := by
  intro w h
  obtain ⟨k, hk, rfl⟩ := List.mem_map.mp h
  have hk := List.mem_range.mp hk
  match k, hk with
  | 0, _ => exact kw_305
  | 1, _ => exact kw_306
  | 2, _ => exact kw_307
  | n + 3, hk => exact absurd hk (by omega)
theorem kw_308 : Cond.methodLink RX3 23 yX6_copyFrom ∈ ds_gw := ds_g (ds_t4 78 (by decide +kernel)) rfl
theorem kw_309 : Cond.fieldLink RX3 19 "OrnamentDesk$Page" "script" "LOrnamentDesk$Script;" ∈ ds_gw := ds_g (ds_t1 96 (by decide +kernel)) rfl
theorem kw_310 : Cond.methodLink RX3 27 yX5_copyFrom ∈ ds_gw := ds_g (ds_t4 79 (by decide +kernel)) rfl
theorem kw_311 : Cond.instanceMethod yX5_copyFrom ∈ ds_gw := ds_g (ds_t4 80 (by decide +kernel)) rfl
theorem kw_312 : Cond.selects RX5 yX5_copyFrom yX5_copyFrom ∈ ds_gw := ds_g (ds_t4 81 (by decide +kernel)) rfl
theorem kw_313 : Cond.initialized RX5 ∈ ds_gw := ds_g (ds_t1 4 (by decide +kernel)) rfl
theorem kw_314 : Cond.code yX5_copyFrom cX5_copyFrom 3 none ∈ ds_gw := ds_g (ds_t4 82 (by decide +kernel)) rfl
theorem kw_315 : Cond.fieldLink RX4 16 "OrnamentDesk$Past" "size" "I" ∈ ds_gw := ds_g (ds_t1 118 (by decide +kernel)) rfl
theorem kw_316 : u_lay RX4 TX4 0 ∈ ds_gw := ds_g (ds_t1 120 (by decide +kernel)) rfl
theorem kw_317 : u_lay RX4 TX4 1 ∈ ds_gw := ds_g (ds_t1 122 (by decide +kernel)) rfl
theorem kw_318 : u_lay RX4 TX4 2 ∈ ds_gw := ds_g (ds_t1 124 (by decide +kernel)) rfl
theorem kc_X4 : ∀ w ∈ u_ws RX4 TX4 3, w ∈ ds_gw := by
  intro w h
  obtain ⟨k, hk, rfl⟩ := List.mem_map.mp h
  have hk := List.mem_range.mp hk
  match k, hk with
  | 0, _ => exact kw_316
  | 1, _ => exact kw_317
  | 2, _ => exact kw_318
  | n + 3, hk => exact absurd hk (by omega)
theorem kw_319 : Cond.fieldLink RX4 20 "OrnamentDesk$Past" "next" "I" ∈ ds_gw := ds_g (ds_t1 117 (by decide +kernel)) rfl
theorem kw_320 : Cond.fieldLink RX4 11 "OrnamentDesk$Past" "tiles" "[LOrnamentDesk$Tile;" ∈ ds_gw := ds_g (ds_t1 116 (by decide +kernel)) rfl
theorem kw_321 : Cond.methodLink RX4 23 yX6_copyFrom ∈ ds_gw := ds_g (ds_t2 127 (by decide +kernel)) rfl
theorem kw_322 : Cond.methodLink RX4 27 Lib.Math.min.name ∈ ds_gw := ds_g (ds_t2 128 (by decide +kernel)) rfl
theorem kw_323 : Cond.static Lib.Math.min.name ∈ ds_gw := ds_g (ds_t2 129 (by decide +kernel)) rfl
theorem kw_324 : Cond.initialized "java/lang/Math" ∈ ds_gw := ds_g (ds_t1 13 (by decide +kernel)) rfl
theorem kw_325 : Cond.code Lib.Math.min.name Lib.Math.min.code 2 (some .int) ∈ ds_gw := ds_g (ds_t2 130 (by decide +kernel)) rfl
theorem kw_326 : Cond.methodLink RX5 25 yX5_byteOf ∈ ds_gw := ds_g (ds_t1 214 (by decide +kernel)) rfl
theorem kw_327 : Cond.static yX5_byteOf ∈ ds_gw := ds_g (ds_t1 215 (by decide +kernel)) rfl
theorem kw_328 : Cond.code yX5_byteOf cX5_byteOf 3 (some .int) ∈ ds_gw := ds_g (ds_t1 216 (by decide +kernel)) rfl
theorem kw_329 : Cond.methodLink RX5 42 yX5_byteAt ∈ ds_gw := ds_g (ds_t1 233 (by decide +kernel)) rfl
theorem kw_330 : Cond.instanceMethod yX5_byteAt ∈ ds_gw := ds_g (ds_t1 235 (by decide +kernel)) rfl
theorem kw_331 : Cond.selects RX5 yX5_byteAt yX5_byteAt ∈ ds_gw := ds_g (ds_sel (y := yX5_byteAt) 5 (ds_p1 1 (by decide +kernel))) rfl
theorem kw_332 : Cond.code yX5_byteAt cX5_byteAt 2 (some .int) ∈ ds_gw := ds_g (ds_t1 236 (by decide +kernel)) rfl
theorem kw_333 : Cond.methodLink RX5 46 yX5_isLetter ∈ ds_gw := ds_g (ds_t1 237 (by decide +kernel)) rfl
theorem kw_334 : Cond.static yX5_isLetter ∈ ds_gw := ds_g (ds_t1 238 (by decide +kernel)) rfl
theorem kw_335 : Cond.code yX5_isLetter cX5_isLetter 1 (some .boolean) ∈ ds_gw := ds_g (ds_t1 239 (by decide +kernel)) rfl
theorem kw_336 : Cond.methodLink RX5 82 yJ0_length_8abf5 ∈ ds_gw := ds_g (ds_t2 13 (by decide +kernel)) rfl
theorem kw_337 : Cond.instanceMethod yJ0_length_8abf5 ∈ ds_gw := ds_g (ds_t2 14 (by decide +kernel)) rfl
theorem kw_338 : Cond.selects RJ0 yJ0_length_8abf5 yJ0_length_8abf5 ∈ ds_gw := ds_g (ds_t2 15 (by decide +kernel)) rfl
theorem kw_339 : Cond.code yJ0_length_8abf5 cJ0_length_8abf5 1 (some .int) ∈ ds_gw := ds_g (ds_t2 16 (by decide +kernel)) rfl
theorem kw_340 : Cond.methodLink RX5 87 yJ0_charAt_5068e ∈ ds_gw := ds_g (ds_t2 23 (by decide +kernel)) rfl
theorem kw_341 : Cond.instanceMethod yJ0_charAt_5068e ∈ ds_gw := ds_g (ds_t2 24 (by decide +kernel)) rfl
theorem kw_342 : Cond.selects RJ0 yJ0_charAt_5068e yJ0_charAt_5068e ∈ ds_gw := ds_g (ds_t2 25 (by decide +kernel)) rfl
theorem kw_343 : Cond.code yJ0_charAt_5068e cJ0_charAt_5068e 2 (some .char) ∈ ds_gw := ds_g (ds_t2 26 (by decide +kernel)) rfl
theorem kw_344 : Cond.fieldLink RX5 35 "OrnamentDesk$Script" "rows" "I" ∈ ds_gw := ds_g (ds_t1 81 (by decide +kernel)) rfl
theorem kw_345 : Cond.methodLink RX5 97 yX6_bit ∈ ds_gw := ds_g (ds_t2 70 (by decide +kernel)) rfl
theorem kw_346 : Cond.methodLink RX5 101 yX6_colourCells ∈ ds_gw := ds_g (ds_t2 73 (by decide +kernel)) rfl
theorem kw_347 : Cond.instanceMethod yX6_colourCells ∈ ds_gw := ds_g (ds_t2 74 (by decide +kernel)) rfl
theorem kw_348 : Cond.selects RX6 yX6_colourCells yX6_colourCells ∈ ds_gw := ds_g (ds_t2 75 (by decide +kernel)) rfl
theorem kw_349 : Cond.code yX6_colourCells cX6_colourCells 4 none ∈ ds_gw := ds_g (ds_t2 76 (by decide +kernel)) rfl
theorem kw_350 : Cond.fieldLinkNest RX5 94 "OrnamentDesk$Tile" "high" "I" "OrnamentDesk" ∈ ds_nw := ds_n (ds_t1 47 (by decide +kernel)) rfl
theorem kw_351 : Cond.fieldLinkNest RX5 91 "OrnamentDesk$Tile" "wide" "I" "OrnamentDesk" ∈ ds_nw := ds_n (ds_t1 43 (by decide +kernel)) rfl
theorem kw_352 : Cond.fieldLinkNest RX5 71 "OrnamentDesk$Tile" "hex" "Z" "OrnamentDesk" ∈ ds_nw := ds_n (ds_t1 52 (by decide +kernel)) rfl
theorem kw_353 : Cond.methodLink RX5 65 yX5_isWord ∈ ds_gw := ds_g (ds_t2 9 (by decide +kernel)) rfl
theorem kw_354 : Cond.instanceMethod yX5_isWord ∈ ds_gw := ds_g (ds_t2 11 (by decide +kernel)) rfl
theorem kw_355 : Cond.selects RX5 yX5_isWord yX5_isWord ∈ ds_gw := ds_g (ds_sel (y := yX5_isWord) 5 (ds_p1 4 (by decide +kernel))) rfl
theorem kw_356 : Cond.code yX5_isWord cX5_isWord 5 (some .boolean) ∈ ds_gw := ds_g (ds_t2 12 (by decide +kernel)) rfl
theorem kw_357 : Cond.methodLink RX5 74 yX5_isRow ∈ ds_gw := ds_g (ds_t2 62 (by decide +kernel)) rfl
theorem kw_358 : Cond.instanceMethod yX5_isRow ∈ ds_gw := ds_g (ds_t2 64 (by decide +kernel)) rfl
theorem kw_359 : Cond.selects RX5 yX5_isRow yX5_isRow ∈ ds_gw := ds_g (ds_sel (y := yX5_isRow) 5 (ds_p1 5 (by decide +kernel))) rfl
theorem kw_360 : Cond.code yX5_isRow cX5_isRow 4 (some .boolean) ∈ ds_gw := ds_g (ds_t2 65 (by decide +kernel)) rfl
theorem kw_361 : Cond.methodLink RX5 78 yX5_takeRow ∈ ds_gw := ds_g (ds_t2 66 (by decide +kernel)) rfl
theorem kw_362 : Cond.instanceMethod yX5_takeRow ∈ ds_gw := ds_g (ds_t2 68 (by decide +kernel)) rfl
theorem kw_363 : Cond.selects RX5 yX5_takeRow yX5_takeRow ∈ ds_gw := ds_g (ds_sel (y := yX5_takeRow) 5 (ds_p1 6 (by decide +kernel))) rfl
theorem kw_364 : Cond.code yX5_takeRow cX5_takeRow 5 none ∈ ds_gw := ds_g (ds_t2 69 (by decide +kernel)) rfl
theorem kw_365 : Cond.methodLink RX5 57 Lib.Math.max.name ∈ ds_gw := ds_g (ds_t2 78 (by decide +kernel)) rfl
theorem kw_366 : Cond.static Lib.Math.max.name ∈ ds_gw := ds_g (ds_t2 79 (by decide +kernel)) rfl
theorem kw_367 : Cond.code Lib.Math.max.name Lib.Math.max.code 2 (some .int) ∈ ds_gw := ds_g (ds_t2 80 (by decide +kernel)) rfl
theorem kw_368 : Cond.methodLink RX5 50 yX5_wordEnd ∈ ds_gw := ds_g (ds_t2 0 (by decide +kernel)) rfl
theorem kw_369 : Cond.instanceMethod yX5_wordEnd ∈ ds_gw := ds_g (ds_t2 2 (by decide +kernel)) rfl
theorem kw_370 : Cond.selects RX5 yX5_wordEnd yX5_wordEnd ∈ ds_gw := ds_g (ds_sel (y := yX5_wordEnd) 5 (ds_p1 2 (by decide +kernel))) rfl
theorem kw_371 : Cond.code yX5_wordEnd cX5_wordEnd 3 (some .int) ∈ ds_gw := ds_g (ds_t2 3 (by decide +kernel)) rfl
theorem kw_372 : Cond.methodLink RX5 53 yX5_takesWord ∈ ds_gw := ds_g (ds_t2 4 (by decide +kernel)) rfl
theorem kw_373 : Cond.instanceMethod yX5_takesWord ∈ ds_gw := ds_g (ds_t2 6 (by decide +kernel)) rfl
theorem kw_374 : Cond.selects RX5 yX5_takesWord yX5_takesWord ∈ ds_gw := ds_g (ds_sel (y := yX5_takesWord) 5 (ds_p1 3 (by decide +kernel))) rfl
theorem kw_375 : Cond.code yX5_takesWord cX5_takesWord 5 (some .boolean) ∈ ds_gw := ds_g (ds_t2 7 (by decide +kernel)) rfl
theorem kw_376 : Cond.methodLink RX5 29 yX6_clear ∈ ds_gw := ds_g (ds_t1 225 (by decide +kernel)) rfl
theorem kw_377 : Cond.methodLink RX5 38 yX5_firstMisfit ∈ ds_gw := ds_g (ds_t1 229 (by decide +kernel)) rfl
theorem kw_378 : Cond.instanceMethod yX5_firstMisfit ∈ ds_gw := ds_g (ds_t1 231 (by decide +kernel)) rfl
theorem kw_379 : Cond.selects RX5 yX5_firstMisfit yX5_firstMisfit ∈ ds_gw := ds_g (ds_sel (y := yX5_firstMisfit) 5 (ds_p1 0 (by decide +kernel))) rfl
theorem kw_380 : Cond.code yX5_firstMisfit cX5_firstMisfit 6 (some .int) ∈ ds_gw := ds_g (ds_t1 232 (by decide +kernel)) rfl
theorem kw_381 : Cond.fieldLink RX7 10 "OrnamentDesk" "now" "LOrnamentDesk$Page;" ∈ ds_gw := ds_g (ds_t1 184 (by decide +kernel)) rfl
theorem kw_382 : u_lay RX7 TX7 0 ∈ ds_gw := ds_g (ds_t1 191 (by decide +kernel)) rfl
theorem kw_383 : u_lay RX7 TX7 1 ∈ ds_gw := ds_g (ds_t1 193 (by decide +kernel)) rfl
theorem kw_384 : u_lay RX7 TX7 2 ∈ ds_gw := ds_g (ds_t1 195 (by decide +kernel)) rfl
theorem kw_385 : u_lay RX7 TX7 3 ∈ ds_gw := ds_g (ds_t1 197 (by decide +kernel)) rfl
theorem kw_386 : u_lay RX7 TX7 4 ∈ ds_gw := ds_g (ds_t1 199 (by decide +kernel)) rfl
theorem kw_387 : u_lay RX7 TX7 5 ∈ ds_gw := ds_g (ds_t1 201 (by decide +kernel)) rfl
theorem kw_388 : u_lay RX7 TX7 6 ∈ ds_gw := ds_g (ds_t1 203 (by decide +kernel)) rfl
theorem kc_X7 : ∀ w ∈ u_ws RX7 TX7 7, w ∈ ds_gw := by
  intro w h
  obtain ⟨k, hk, rfl⟩ := List.mem_map.mp h
  have hk := List.mem_range.mp hk
  match k, hk with
  | 0, _ => exact kw_382
  | 1, _ => exact kw_383
  | 2, _ => exact kw_384
  | 3, _ => exact kw_385
  | 4, _ => exact kw_386
  | 5, _ => exact kw_387
  | 6, _ => exact kw_388
  | n + 7, hk => exact absurd hk (by omega)
theorem kw_389 : Cond.fieldLinkNest RX7 51 "OrnamentDesk$Page" "script" "LOrnamentDesk$Script;" "OrnamentDesk" ∈ ds_nw := ds_n (ds_t1 97 (by decide +kernel)) rfl
theorem kw_390 : Cond.methodLink RX7 55 yX5_append ∈ ds_gw := ds_g (ds_t1 210 (by decide +kernel)) rfl
theorem kw_391 : Cond.instanceMethod yX5_append ∈ ds_gw := ds_g (ds_t1 211 (by decide +kernel)) rfl
theorem kw_392 : Cond.selects RX5 yX5_append yX5_append ∈ ds_gw := ds_g (ds_t1 212 (by decide +kernel)) rfl
theorem kw_393 : Cond.code yX5_append cX5_append 5 (some .int) ∈ ds_gw := ds_g (ds_t1 213 (by decide +kernel)) rfl
theorem kw_394 : Cond.fieldLink RX7 47 "OrnamentDesk" "draft" "LOrnamentDesk$Tile;" ∈ ds_gw := ds_g (ds_t1 190 (by decide +kernel)) rfl
theorem kw_395 : Cond.methodLink RX7 61 yX5_readInto ∈ ds_gw := ds_g (ds_t1 221 (by decide +kernel)) rfl
theorem kw_396 : Cond.instanceMethod yX5_readInto ∈ ds_gw := ds_g (ds_t1 222 (by decide +kernel)) rfl
theorem kw_397 : Cond.selects RX5 yX5_readInto yX5_readInto ∈ ds_gw := ds_g (ds_t1 223 (by decide +kernel)) rfl
theorem kw_398 : Cond.code yX5_readInto cX5_readInto 3 (some .boolean) ∈ ds_gw := ds_g (ds_t1 224 (by decide +kernel)) rfl
theorem kw_399 : Cond.fieldLinkNest RX7 65 "OrnamentDesk$Page" "tile" "LOrnamentDesk$Tile;" "OrnamentDesk" ∈ ds_nw := ds_n (ds_t1 95 (by decide +kernel)) rfl
theorem kw_400 : Cond.methodLink RX7 68 yX6_copyFrom ∈ ds_gw := ds_g (ds_t2 81 (by decide +kernel)) rfl
theorem kw_401 : Cond.fieldLink RX7 23 "OrnamentDesk" "past" "LOrnamentDesk$Past;" ∈ ds_gw := ds_g (ds_t1 186 (by decide +kernel)) rfl
theorem kw_402 : Cond.methodLink RX7 72 yX4_clear ∈ ds_gw := ds_g (ds_t2 85 (by decide +kernel)) rfl
theorem kw_403 : Cond.instanceMethod yX4_clear ∈ ds_gw := ds_g (ds_t2 86 (by decide +kernel)) rfl
theorem kw_404 : Cond.selects RX4 yX4_clear yX4_clear ∈ ds_gw := ds_g (ds_t2 87 (by decide +kernel)) rfl
theorem kw_405 : Cond.initialized RX4 ∈ ds_gw := ds_g (ds_t1 5 (by decide +kernel)) rfl
theorem kw_406 : Cond.code yX4_clear cX4_clear 1 none ∈ ds_gw := ds_g (ds_t2 88 (by decide +kernel)) rfl
theorem kw_407 : Cond.methodLink RX7 75 yX6_cells ∈ ds_gw := ds_g (ds_t2 89 (by decide +kernel)) rfl
theorem kw_408 : Cond.fieldLinkNest RX7 83 "OrnamentDesk$Script" "fault" "I" "OrnamentDesk" ∈ ds_nw := ds_n (ds_t1 78 (by decide +kernel)) rfl
theorem kw_409 : Cond.fieldLinkNest RX7 79 "OrnamentDesk$Script" "place" "I" "OrnamentDesk" ∈ ds_nw := ds_n (ds_t1 80 (by decide +kernel)) rfl
theorem kw_410 : Cond.methodLink RX7 319 yX6_same ∈ ds_gw := ds_g (ds_t2 115 (by decide +kernel)) rfl
theorem kw_411 : Cond.methodLink RX7 161 yX4_keep ∈ ds_gw := ds_g (ds_t2 123 (by decide +kernel)) rfl
theorem kw_412 : Cond.instanceMethod yX4_keep ∈ ds_gw := ds_g (ds_t2 124 (by decide +kernel)) rfl
theorem kw_413 : Cond.selects RX4 yX4_keep yX4_keep ∈ ds_gw := ds_g (ds_t2 125 (by decide +kernel)) rfl
theorem kw_414 : Cond.code yX4_keep cX4_keep 2 none ∈ ds_gw := ds_g (ds_t2 126 (by decide +kernel)) rfl
theorem kw_415 : Cond.methodLink RX7 86 yX6_has ∈ ds_gw := ds_g (ds_t2 102 (by decide +kernel)) rfl
theorem kw_416 : Cond.instanceMethod yX6_has ∈ ds_gw := ds_g (ds_t2 103 (by decide +kernel)) rfl
theorem kw_417 : Cond.selects RX6 yX6_has yX6_has ∈ ds_gw := ds_g (ds_t2 104 (by decide +kernel)) rfl
theorem kw_418 : Cond.code yX6_has cX6_has 3 (some .boolean) ∈ ds_gw := ds_g (ds_t2 105 (by decide +kernel)) rfl
theorem kw_419 : Cond.methodLink RX7 90 yX7_isColour ∈ ds_gw := ds_g (ds_t2 106 (by decide +kernel)) rfl
theorem kw_420 : Cond.static yX7_isColour ∈ ds_gw := ds_g (ds_t2 107 (by decide +kernel)) rfl
theorem kw_421 : Cond.code yX7_isColour cX7_isColour 1 (some .boolean) ∈ ds_gw := ds_g (ds_t2 108 (by decide +kernel)) rfl
theorem kw_422 : Cond.methodLink RX7 94 yX6_bit ∈ ds_gw := ds_g (ds_t2 109 (by decide +kernel)) rfl
theorem kw_423 : Cond.methodLink RX7 98 yX6_colourCells ∈ ds_gw := ds_g (ds_t2 110 (by decide +kernel)) rfl
theorem kw_424 : Cond.methodLink RX7 102 yX7_takeDraft ∈ ds_gw := ds_g (ds_t2 111 (by decide +kernel)) rfl
theorem kw_425 : Cond.instanceMethod yX7_takeDraft ∈ ds_gw := ds_g (ds_t2 113 (by decide +kernel)) rfl
theorem kw_426 : Cond.selects RX7 yX7_takeDraft yX7_takeDraft ∈ ds_gw := ds_g (ds_sel (y := yX7_takeDraft) 7 (ds_p1 7 (by decide +kernel))) rfl
theorem kw_427 : Cond.code yX7_takeDraft cX7_takeDraft 1 (some .boolean) ∈ ds_gw := ds_g (ds_t2 114 (by decide +kernel)) rfl
theorem kw_428 : Cond.methodLink RX7 106 yX7_isShiftPart ∈ ds_gw := ds_g (ds_t2 135 (by decide +kernel)) rfl
theorem kw_429 : Cond.static yX7_isShiftPart ∈ ds_gw := ds_g (ds_t2 136 (by decide +kernel)) rfl
theorem kw_430 : Cond.code yX7_isShiftPart cX7_isShiftPart 1 (some .boolean) ∈ ds_gw := ds_g (ds_t2 137 (by decide +kernel)) rfl
theorem kw_431 : Cond.fieldLinkNest RX7 109 "OrnamentDesk$Tile" "ones" "J" "OrnamentDesk" ∈ ds_nw := ds_n (ds_t1 54 (by decide +kernel)) rfl
theorem kw_432 : Cond.methodLink RX7 113 yX6_rolled ∈ ds_gw := ds_g (ds_t2 138 (by decide +kernel)) rfl
theorem kw_433 : Cond.fieldLinkNest RX7 117 "OrnamentDesk$Tile" "twos" "J" "OrnamentDesk" ∈ ds_nw := ds_n (ds_t1 56 (by decide +kernel)) rfl
theorem kw_434 : Cond.fieldLinkNest RX7 120 "OrnamentDesk$Tile" "hex" "Z" "OrnamentDesk" ∈ ds_nw := ds_n (ds_t1 51 (by decide +kernel)) rfl
theorem kw_435 : Cond.methodLink RX7 124 yX1_isTurning ∈ ds_gw := ds_g (ds_t2 162 (by decide +kernel)) rfl
theorem kw_436 : Cond.fieldLinkNest RX7 130 "OrnamentDesk$Tile" "wide" "I" "OrnamentDesk" ∈ ds_nw := ds_n (ds_t1 42 (by decide +kernel)) rfl
theorem kw_437 : Cond.fieldLinkNest RX7 133 "OrnamentDesk$Tile" "high" "I" "OrnamentDesk" ∈ ds_nw := ds_n (ds_t1 46 (by decide +kernel)) rfl
theorem kw_438 : Cond.methodLink RX7 136 yX6_turnFrom ∈ ds_gw := ds_g (ds_t2 168 (by decide +kernel)) rfl
theorem kw_439 : Cond.methodLink RX7 140 yX6_ofColour ∈ ds_gw := ds_g (ds_t2 205 (by decide +kernel)) rfl
theorem kw_440 : Cond.fieldLink RX7 30 "OrnamentDesk" "orbits" "LOrnamentDesk$Orbits;" ∈ ds_gw := ds_g (ds_t1 187 (by decide +kernel)) rfl
theorem kw_441 : Cond.fieldLinkNest RX7 164 "OrnamentDesk$Orbits" "size" "I" "OrnamentDesk" ∈ ds_nw := ds_n (ds_t1 135 (by decide +kernel)) rfl
theorem kw_442 : Cond.methodLink RX7 157 yX2_startingAt ∈ ds_gw := ds_g (ds_t3 3 (by decide +kernel)) rfl
theorem kw_443 : Cond.instanceMethod yX2_startingAt ∈ ds_gw := ds_g (ds_t3 4 (by decide +kernel)) rfl
theorem kw_444 : Cond.selects RX2 yX2_startingAt yX2_startingAt ∈ ds_gw := ds_g (ds_t3 5 (by decide +kernel)) rfl
theorem kw_445 : Cond.code yX2_startingAt cX2_startingAt 2 (some .long) ∈ ds_gw := ds_g (ds_t3 6 (by decide +kernel)) rfl
theorem kw_446 : Cond.constant RX7 160 (1103515245) ∈ ds_gw := ds_g (ds_t3 7 (by decide +kernel)) rfl
theorem kw_447 : Cond.methodLink RX7 154 yX6_clear ∈ ds_gw := ds_g (ds_t3 2 (by decide +kernel)) rfl
theorem kw_448 : Cond.methodLink RX7 144 yX7_isClass ∈ ds_gw := ds_g (ds_t2 217 (by decide +kernel)) rfl
theorem kw_449 : Cond.static yX7_isClass ∈ ds_gw := ds_g (ds_t2 218 (by decide +kernel)) rfl
theorem kw_450 : Cond.code yX7_isClass cX7_isClass 1 (some .boolean) ∈ ds_gw := ds_g (ds_t2 219 (by decide +kernel)) rfl
theorem kw_451 : Cond.methodLink RX7 147 yX2_fits ∈ ds_gw := ds_g (ds_t2 220 (by decide +kernel)) rfl
theorem kw_452 : Cond.static yX2_fits ∈ ds_gw := ds_g (ds_t2 221 (by decide +kernel)) rfl
theorem kw_453 : Cond.code yX2_fits cX2_fits 3 (some .boolean) ∈ ds_gw := ds_g (ds_t2 222 (by decide +kernel)) rfl
theorem kw_454 : Cond.methodLink RX7 150 yX2_split ∈ ds_gw := ds_g (ds_t2 228 (by decide +kernel)) rfl
theorem kw_455 : Cond.instanceMethod yX2_split ∈ ds_gw := ds_g (ds_t2 229 (by decide +kernel)) rfl
theorem kw_456 : Cond.selects RX2 yX2_split yX2_split ∈ ds_gw := ds_g (ds_t2 230 (by decide +kernel)) rfl
theorem kw_457 : Cond.code yX2_split cX2_split 7 none ∈ ds_gw := ds_g (ds_t2 231 (by decide +kernel)) rfl
theorem kw_458 : Cond.methodLink RX7 174 yX6_mostlyOf ∈ ds_gw := ds_g (ds_t3 34 (by decide +kernel)) rfl
theorem kw_459 : Cond.methodLink RX7 167 yX7_canBeAsked ∈ ds_gw := ds_g (ds_t3 12 (by decide +kernel)) rfl
theorem kw_460 : Cond.instanceMethod yX7_canBeAsked ∈ ds_gw := ds_g (ds_t3 14 (by decide +kernel)) rfl
theorem kw_461 : Cond.selects RX7 yX7_canBeAsked yX7_canBeAsked ∈ ds_gw := ds_g (ds_sel (y := yX7_canBeAsked) 7 (ds_p1 10 (by decide +kernel))) rfl
theorem kw_462 : Cond.code yX7_canBeAsked cX7_canBeAsked 3 (some .boolean) ∈ ds_gw := ds_g (ds_t3 15 (by decide +kernel)) rfl
theorem kw_463 : Cond.methodLink RX7 170 yX2_flawsOf ∈ ds_gw := ds_g (ds_t3 16 (by decide +kernel)) rfl
theorem kw_464 : Cond.instanceMethod yX2_flawsOf ∈ ds_gw := ds_g (ds_t3 17 (by decide +kernel)) rfl
theorem kw_465 : Cond.selects RX2 yX2_flawsOf yX2_flawsOf ∈ ds_gw := ds_g (ds_t3 18 (by decide +kernel)) rfl
theorem kw_466 : Cond.code yX2_flawsOf cX2_flawsOf 6 (some .int) ∈ ds_gw := ds_g (ds_t3 19 (by decide +kernel)) rfl
theorem kw_467 : Cond.methodLink RX7 177 yX6_leastStepAlongX ∈ ds_gw := ds_g (ds_t3 39 (by decide +kernel)) rfl
theorem kw_468 : Cond.instanceMethod yX6_leastStepAlongX ∈ ds_gw := ds_g (ds_t3 40 (by decide +kernel)) rfl
theorem kw_469 : Cond.selects RX6 yX6_leastStepAlongX yX6_leastStepAlongX ∈ ds_gw := ds_g (ds_t3 41 (by decide +kernel)) rfl
theorem kw_470 : Cond.code yX6_leastStepAlongX cX6_leastStepAlongX 2 (some .int) ∈ ds_gw := ds_g (ds_t3 42 (by decide +kernel)) rfl
theorem kw_471 : Cond.methodLink RX7 180 yX6_leastStepAlongY ∈ ds_gw := ds_g (ds_t3 43 (by decide +kernel)) rfl
theorem kw_472 : Cond.instanceMethod yX6_leastStepAlongY ∈ ds_gw := ds_g (ds_t3 44 (by decide +kernel)) rfl
theorem kw_473 : Cond.selects RX6 yX6_leastStepAlongY yX6_leastStepAlongY ∈ ds_gw := ds_g (ds_t3 45 (by decide +kernel)) rfl
theorem kw_474 : Cond.code yX6_leastStepAlongY cX6_leastStepAlongY 2 (some .int) ∈ ds_gw := ds_g (ds_t3 46 (by decide +kernel)) rfl
theorem kw_475 : Cond.methodLink RX7 183 yX6_all ∈ ds_gw := ds_g (ds_t3 47 (by decide +kernel)) rfl
theorem kw_476 : Cond.methodLink RX7 187 yX4_giveBack ∈ ds_gw := ds_g (ds_t3 52 (by decide +kernel)) rfl
theorem kw_477 : Cond.instanceMethod yX4_giveBack ∈ ds_gw := ds_g (ds_t3 53 (by decide +kernel)) rfl
theorem kw_478 : Cond.selects RX4 yX4_giveBack yX4_giveBack ∈ ds_gw := ds_g (ds_t3 54 (by decide +kernel)) rfl
theorem kw_479 : Cond.code yX4_giveBack cX4_giveBack 3 (some .boolean) ∈ ds_gw := ds_g (ds_t3 55 (by decide +kernel)) rfl
theorem kw_480 : Cond.fieldLinkNest RX7 190 "OrnamentDesk$Past" "size" "I" "OrnamentDesk" ∈ ds_nw := ds_n (ds_t1 119 (by decide +kernel)) rfl
theorem kw_481 : Cond.fieldLink RX7 37 "OrnamentDesk" "group" "LOrnamentDesk$Group;" ∈ ds_gw := ds_g (ds_t1 188 (by decide +kernel)) rfl
theorem kw_482 : Cond.methodLink RX7 199 yX0_span ∈ ds_gw := ds_g (ds_t3 74 (by decide +kernel)) rfl
theorem kw_483 : Cond.methodLink RX7 202 yX0_motif ∈ ds_gw := ds_g (ds_t3 83 (by decide +kernel)) rfl
theorem kw_484 : Cond.instanceMethod yX0_motif ∈ ds_gw := ds_g (ds_t3 84 (by decide +kernel)) rfl
theorem kw_485 : Cond.selects RX0 yX0_motif yX0_motif ∈ ds_gw := ds_g (ds_t3 85 (by decide +kernel)) rfl
theorem kw_486 : Cond.code yX0_motif cX0_motif 2 (some .int) ∈ ds_gw := ds_g (ds_t3 86 (by decide +kernel)) rfl
theorem kw_487 : Cond.methodLink RX7 205 yX0_order ∈ ds_gw := ds_g (ds_t3 89 (by decide +kernel)) rfl
theorem kw_488 : Cond.methodLink RX7 208 yX0_planeClass ∈ ds_gw := ds_g (ds_t3 105 (by decide +kernel)) rfl
theorem kw_489 : Cond.instanceMethod yX0_planeClass ∈ ds_gw := ds_g (ds_t3 106 (by decide +kernel)) rfl
theorem kw_490 : Cond.selects RX0 yX0_planeClass yX0_planeClass ∈ ds_gw := ds_g (ds_t3 107 (by decide +kernel)) rfl
theorem kw_491 : Cond.code yX0_planeClass cX0_planeClass 2 (some .int) ∈ ds_gw := ds_g (ds_t3 108 (by decide +kernel)) rfl
theorem kw_492 : Cond.methodLink RX7 211 yX0_mirrors ∈ ds_gw := ds_g (ds_t3 180 (by decide +kernel)) rfl
theorem kw_493 : Cond.methodLink RX7 214 yX0_flips ∈ ds_gw := ds_g (ds_t3 181 (by decide +kernel)) rfl
theorem kw_494 : Cond.methodLink RX7 217 yX0_crossed ∈ ds_gw := ds_g (ds_t3 182 (by decide +kernel)) rfl
theorem kw_495 : Cond.methodLink RX7 220 yX0_kindsAhead ∈ ds_gw := ds_g (ds_t3 183 (by decide +kernel)) rfl
theorem kw_496 : Cond.instanceMethod yX0_kindsAhead ∈ ds_gw := ds_g (ds_t3 184 (by decide +kernel)) rfl
theorem kw_497 : Cond.selects RX0 yX0_kindsAhead yX0_kindsAhead ∈ ds_gw := ds_g (ds_t3 185 (by decide +kernel)) rfl
theorem kw_498 : Cond.code yX0_kindsAhead cX0_kindsAhead 10 (some .int) ∈ ds_gw := ds_g (ds_t3 186 (by decide +kernel)) rfl
theorem kw_499 : Cond.methodLink RX7 223 yX6_coloursUsed ∈ ds_gw := ds_g (ds_t3 193 (by decide +kernel)) rfl
theorem kw_500 : Cond.instanceMethod yX6_coloursUsed ∈ ds_gw := ds_g (ds_t3 194 (by decide +kernel)) rfl
theorem kw_501 : Cond.selects RX6 yX6_coloursUsed yX6_coloursUsed ∈ ds_gw := ds_g (ds_t3 195 (by decide +kernel)) rfl
theorem kw_502 : Cond.code yX6_coloursUsed cX6_coloursUsed 3 (some .int) ∈ ds_gw := ds_g (ds_t3 196 (by decide +kernel)) rfl
theorem kw_503 : Cond.fieldLinkNest RX7 226 "OrnamentDesk$Script" "length" "I" "OrnamentDesk" ∈ ds_nw := ds_n (ds_t1 76 (by decide +kernel)) rfl
theorem kw_504 : Cond.methodLink RX7 229 yX0_turningBits ∈ ds_gw := ds_g (ds_t3 197 (by decide +kernel)) rfl
theorem kw_505 : Cond.methodLink RX7 196 yX0_lookAt ∈ ds_gw := ds_g (ds_t3 61 (by decide +kernel)) rfl
theorem kw_506 : Cond.instanceMethod yX0_lookAt ∈ ds_gw := ds_g (ds_t3 62 (by decide +kernel)) rfl
theorem kw_507 : Cond.selects RX0 yX0_lookAt yX0_lookAt ∈ ds_gw := ds_g (ds_t3 63 (by decide +kernel)) rfl
theorem kw_508 : Cond.code yX0_lookAt cX0_lookAt 4 none ∈ ds_gw := ds_g (ds_t3 64 (by decide +kernel)) rfl
theorem kw_509 : Cond.methodLink RX7 191 yJ13_bitCount_95d88 ∈ ds_gw := ds_g (ds_t3 60 (by decide +kernel)) rfl
theorem kw_510 : Cond.methodLink RX7 232 yX6_colourAt ∈ ds_gw := ds_g (ds_t3 202 (by decide +kernel)) rfl
theorem kw_511 : Cond.instanceMethod yX6_colourAt ∈ ds_gw := ds_g (ds_t3 203 (by decide +kernel)) rfl
theorem kw_512 : Cond.selects RX6 yX6_colourAt yX6_colourAt ∈ ds_gw := ds_g (ds_t3 204 (by decide +kernel)) rfl
theorem kw_513 : Cond.code yX6_colourAt cX6_colourAt 5 (some .int) ∈ ds_gw := ds_g (ds_t3 205 (by decide +kernel)) rfl
theorem kw_514 : Cond.methodLink RX7 265 yX7_placeOf ∈ ds_gw := ds_g (ds_t3 212 (by decide +kernel)) rfl
theorem kw_515 : Cond.static yX7_placeOf ∈ ds_gw := ds_g (ds_t3 213 (by decide +kernel)) rfl
theorem kw_516 : Cond.code yX7_placeOf cX7_placeOf 5 (some .int) ∈ ds_gw := ds_g (ds_t3 214 (by decide +kernel)) rfl
theorem kw_517 : Cond.methodLink RX7 262 yX0_shiftsFor ∈ ds_gw := ds_g (ds_t3 211 (by decide +kernel)) rfl
theorem kw_518 : Cond.methodLink RX7 269 yX0_hasFlip ∈ ds_gw := ds_g (ds_t3 219 (by decide +kernel)) rfl
theorem kw_519 : Cond.methodLink RX7 272 yX0_isMirror ∈ ds_gw := ds_g (ds_t3 220 (by decide +kernel)) rfl
theorem kw_520 : Cond.methodLink RX7 275 yX0_turnsAt ∈ ds_gw := ds_g (ds_t3 225 (by decide +kernel)) rfl
theorem kw_521 : Cond.instanceMethod yX0_turnsAt ∈ ds_gw := ds_g (ds_t3 226 (by decide +kernel)) rfl
theorem kw_522 : Cond.selects RX0 yX0_turnsAt yX0_turnsAt ∈ ds_gw := ds_g (ds_t3 227 (by decide +kernel)) rfl
theorem kw_523 : Cond.code yX0_turnsAt cX0_turnsAt 5 (some .int) ∈ ds_gw := ds_g (ds_t3 228 (by decide +kernel)) rfl
theorem kw_524 : Cond.methodLink RX7 278 yX6_bitOfPlane ∈ ds_gw := ds_g (ds_t3 237 (by decide +kernel)) rfl
theorem kw_525 : Cond.constantLong RX7 325 (255) ∈ ds_gw := ds_g (ds_t4 14 (by decide +kernel)) rfl
theorem kw_526 : Cond.methodLink RX7 322 yX1_turningOfWay ∈ ds_gw := ds_g (ds_t4 10 (by decide +kernel)) rfl
theorem kw_527 : Cond.static yX1_turningOfWay ∈ ds_gw := ds_g (ds_t4 11 (by decide +kernel)) rfl
theorem kw_528 : Cond.code yX1_turningOfWay cX1_turningOfWay 1 (some .int) ∈ ds_gw := ds_g (ds_t4 12 (by decide +kernel)) rfl
theorem kw_529 : Cond.methodLink RX7 302 yX6_stepsFrom ∈ ds_gw := ds_g (ds_t4 13 (by decide +kernel)) rfl
theorem kw_530 : Cond.methodLink RX7 284 yX7_shiftsOfWay ∈ ds_gw := ds_g (ds_t4 6 (by decide +kernel)) rfl
theorem kw_531 : Cond.instanceMethod yX7_shiftsOfWay ∈ ds_gw := ds_g (ds_t4 8 (by decide +kernel)) rfl
theorem kw_532 : Cond.selects RX7 yX7_shiftsOfWay yX7_shiftsOfWay ∈ ds_gw := ds_g (ds_sel (y := yX7_shiftsOfWay) 7 (ds_p2 5 (by decide +kernel))) rfl
theorem kw_533 : Cond.code yX7_shiftsOfWay cX7_shiftsOfWay 6 (some .long) ∈ ds_gw := ds_g (ds_t4 9 (by decide +kernel)) rfl
theorem kw_534 : Cond.methodLink RX7 281 yX7_stripClass ∈ ds_gw := ds_g (ds_t4 2 (by decide +kernel)) rfl
theorem kw_535 : Cond.instanceMethod yX7_stripClass ∈ ds_gw := ds_g (ds_t4 4 (by decide +kernel)) rfl
theorem kw_536 : Cond.selects RX7 yX7_stripClass yX7_stripClass ∈ ds_gw := ds_g (ds_sel (y := yX7_stripClass) 7 (ds_p2 4 (by decide +kernel))) rfl
theorem kw_537 : Cond.code yX7_stripClass cX7_stripClass 4 (some .int) ∈ ds_gw := ds_g (ds_t4 5 (by decide +kernel)) rfl
theorem kw_538 : Cond.methodLink RX7 287 yX0_recolourings ∈ ds_gw := ds_g (ds_t4 19 (by decide +kernel)) rfl
theorem kw_539 : Cond.instanceMethod yX0_recolourings ∈ ds_gw := ds_g (ds_t4 20 (by decide +kernel)) rfl
theorem kw_540 : Cond.selects RX0 yX0_recolourings yX0_recolourings ∈ ds_gw := ds_g (ds_t4 21 (by decide +kernel)) rfl
theorem kw_541 : Cond.code yX0_recolourings cX0_recolourings 5 (some .int) ∈ ds_gw := ds_g (ds_t4 22 (by decide +kernel)) rfl
theorem kw_542 : Cond.fieldLink RX7 16 "OrnamentDesk" "kept" "[LOrnamentDesk$Page;" ∈ ds_gw := ds_g (ds_t1 185 (by decide +kernel)) rfl
theorem kw_543 : Cond.fieldLinkNest RX7 316 "OrnamentDesk$Page" "filled" "Z" "OrnamentDesk" ∈ ds_nw := ds_n (ds_t1 98 (by decide +kernel)) rfl
theorem kw_544 : Cond.methodLink RX7 298 yX1_turnings ∈ ds_gw := ds_g (ds_t4 41 (by decide +kernel)) rfl
theorem kw_545 : Cond.methodLink RX7 291 yX7_imageOf ∈ ds_gw := ds_g (ds_t4 36 (by decide +kernel)) rfl
theorem kw_546 : Cond.instanceMethod yX7_imageOf ∈ ds_gw := ds_g (ds_t4 38 (by decide +kernel)) rfl
theorem kw_547 : Cond.selects RX7 yX7_imageOf yX7_imageOf ∈ ds_gw := ds_g (ds_sel (y := yX7_imageOf) 7 (ds_p2 8 (by decide +kernel))) rfl
theorem kw_548 : Cond.code yX7_imageOf cX7_imageOf 3 (some (.object "OrnamentDesk$Page")) ∈ ds_gw := ds_g (ds_t4 39 (by decide +kernel)) rfl
theorem kw_549 : Cond.methodLink RX7 295 yX6_sizedAs ∈ ds_gw := ds_g (ds_t4 40 (by decide +kernel)) rfl
theorem kw_550 : Cond.methodLink RX7 306 yX2_withCell ∈ ds_gw := ds_g (ds_t4 50 (by decide +kernel)) rfl
theorem kw_551 : Cond.instanceMethod yX2_withCell ∈ ds_gw := ds_g (ds_t4 51 (by decide +kernel)) rfl
theorem kw_552 : Cond.selects RX2 yX2_withCell yX2_withCell ∈ ds_gw := ds_g (ds_t4 52 (by decide +kernel)) rfl
theorem kw_553 : Cond.code yX2_withCell cX2_withCell 6 (some .long) ∈ ds_gw := ds_g (ds_t4 53 (by decide +kernel)) rfl
theorem kw_554 : Cond.fieldLink RX7 41 "OrnamentDesk" "trial" "LOrnamentDesk$Group;" ∈ ds_gw := ds_g (ds_t1 189 (by decide +kernel)) rfl
theorem kw_555 : Cond.methodLink RX7 309 yX7_kindsIfPainted ∈ ds_gw := ds_g (ds_t4 66 (by decide +kernel)) rfl
theorem kw_556 : Cond.instanceMethod yX7_kindsIfPainted ∈ ds_gw := ds_g (ds_t4 68 (by decide +kernel)) rfl
theorem kw_557 : Cond.selects RX7 yX7_kindsIfPainted yX7_kindsIfPainted ∈ ds_gw := ds_g (ds_sel (y := yX7_kindsIfPainted) 7 (ds_p2 9 (by decide +kernel))) rfl
theorem kw_558 : Cond.code yX7_kindsIfPainted cX7_kindsIfPainted 4 (some .int) ∈ ds_gw := ds_g (ds_t4 69 (by decide +kernel)) rfl
theorem kw_559 : Cond.methodLink RX7 313 yX3_copyFrom ∈ ds_gw := ds_g (ds_t4 74 (by decide +kernel)) rfl
theorem kw_560 : Cond.instanceMethod yX3_copyFrom ∈ ds_gw := ds_g (ds_t4 75 (by decide +kernel)) rfl
theorem kw_561 : Cond.selects RX3 yX3_copyFrom yX3_copyFrom ∈ ds_gw := ds_g (ds_t4 76 (by decide +kernel)) rfl
theorem kw_562 : Cond.initialized RX3 ∈ ds_gw := ds_g (ds_t1 2 (by decide +kernel)) rfl
theorem kw_563 : Cond.code yX3_copyFrom cX3_copyFrom 2 none ∈ ds_gw := ds_g (ds_t4 77 (by decide +kernel)) rfl
theorem kw_564 : Cond.fieldLink RX8 51 "OrnamentDeskModel" "raised" "I" ∈ ds_gw := ds_g (ds_t4 171 (by decide +kernel)) rfl
theorem kw_565 : u_lay RX8 TX8 0 ∈ ds_gw := ds_g (ds_t4 197 (by decide +kernel)) rfl
theorem kw_566 : u_lay RX8 TX8 1 ∈ ds_gw := ds_g (ds_t4 199 (by decide +kernel)) rfl
theorem kw_567 : u_lay RX8 TX8 2 ∈ ds_gw := ds_g (ds_t4 201 (by decide +kernel)) rfl
theorem kw_568 : u_lay RX8 TX8 3 ∈ ds_gw := ds_g (ds_t4 203 (by decide +kernel)) rfl
theorem kw_569 : u_lay RX8 TX8 4 ∈ ds_gw := ds_g (ds_t4 205 (by decide +kernel)) rfl
theorem kw_570 : u_lay RX8 TX8 5 ∈ ds_gw := ds_g (ds_t4 207 (by decide +kernel)) rfl
theorem kw_571 : u_lay RX8 TX8 6 ∈ ds_gw := ds_g (ds_t4 209 (by decide +kernel)) rfl
theorem kw_572 : u_lay RX8 TX8 7 ∈ ds_gw := ds_g (ds_t4 211 (by decide +kernel)) rfl
theorem kw_573 : u_lay RX8 TX8 8 ∈ ds_gw := ds_g (ds_t4 213 (by decide +kernel)) rfl
theorem kw_574 : u_lay RX8 TX8 9 ∈ ds_gw := ds_g (ds_t4 215 (by decide +kernel)) rfl
theorem kw_575 : u_lay RX8 TX8 10 ∈ ds_gw := ds_g (ds_t4 217 (by decide +kernel)) rfl
theorem kw_576 : u_lay RX8 TX8 11 ∈ ds_gw := ds_g (ds_t4 219 (by decide +kernel)) rfl
theorem kw_577 : u_lay RX8 TX8 12 ∈ ds_gw := ds_g (ds_t4 221 (by decide +kernel)) rfl
theorem kw_578 : u_lay RX8 TX8 13 ∈ ds_gw := ds_g (ds_t4 223 (by decide +kernel)) rfl
theorem kw_579 : u_lay RX8 TX8 14 ∈ ds_gw := ds_g (ds_t4 225 (by decide +kernel)) rfl
theorem kw_580 : u_lay RX8 TX8 15 ∈ ds_gw := ds_g (ds_t4 227 (by decide +kernel)) rfl
theorem kw_581 : u_lay RX8 TX8 16 ∈ ds_gw := ds_g (ds_t4 229 (by decide +kernel)) rfl
theorem kw_582 : u_lay RX8 TX8 17 ∈ ds_gw := ds_g (ds_t4 231 (by decide +kernel)) rfl
theorem kw_583 : u_lay RX8 TX8 18 ∈ ds_gw := ds_g (ds_t4 233 (by decide +kernel)) rfl
theorem kw_584 : u_lay RX8 TX8 19 ∈ ds_gw := ds_g (ds_t4 235 (by decide +kernel)) rfl
theorem kw_585 : u_lay RX8 TX8 20 ∈ ds_gw := ds_g (ds_t4 237 (by decide +kernel)) rfl
theorem kw_586 : u_lay RX8 TX8 21 ∈ ds_gw := ds_g (ds_t4 239 (by decide +kernel)) rfl
theorem kw_587 : u_lay RX8 TX8 22 ∈ ds_gw := ds_g (ds_t5 1 (by decide +kernel)) rfl
theorem kw_588 : u_lay RX8 TX8 23 ∈ ds_gw := ds_g (ds_t5 3 (by decide +kernel)) rfl
theorem kw_589 : u_lay RX8 TX8 24 ∈ ds_gw := ds_g (ds_t5 5 (by decide +kernel)) rfl
theorem kw_590 : u_lay RX8 TX8 25 ∈ ds_gw := ds_g (ds_t5 7 (by decide +kernel)) rfl
theorem kw_591 : u_lay RX8 TX8 26 ∈ ds_gw := ds_g (ds_t5 9 (by decide +kernel)) rfl
theorem kw_592 : u_lay RX8 TX8 27 ∈ ds_gw := ds_g (ds_t5 11 (by decide +kernel)) rfl
theorem kw_593 : u_lay RX8 TX8 28 ∈ ds_gw := ds_g (ds_t5 13 (by decide +kernel)) rfl
theorem kc_X8 : ∀ w ∈ u_ws RX8 TX8 29, w ∈ ds_gw := by
  intro w h
  obtain ⟨k, hk, rfl⟩ := List.mem_map.mp h
  have hk := List.mem_range.mp hk
  match k, hk with
  | 0, _ => exact kw_565
  | 1, _ => exact kw_566
  | 2, _ => exact kw_567
  | 3, _ => exact kw_568
  | 4, _ => exact kw_569
  | 5, _ => exact kw_570
  | 6, _ => exact kw_571
  | 7, _ => exact kw_572
  | 8, _ => exact kw_573
  | 9, _ => exact kw_574
  | 10, _ => exact kw_575
  | 11, _ => exact kw_576
  | 12, _ => exact kw_577
  | 13, _ => exact kw_578
  | 14, _ => exact kw_579
  | 15, _ => exact kw_580
  | 16, _ => exact kw_581
  | 17, _ => exact kw_582
  | 18, _ => exact kw_583
  | 19, _ => exact kw_584
  | 20, _ => exact kw_585
  | 21, _ => exact kw_586
  | 22, _ => exact kw_587
  | 23, _ => exact kw_588
  | 24, _ => exact kw_589
  | 25, _ => exact kw_590
  | 26, _ => exact kw_591
  | 27, _ => exact kw_592
  | 28, _ => exact kw_593
  | n + 29, hk => exact absurd hk (by omega)
theorem kw_594 : Cond.fieldLink RX8 19 "OrnamentDeskModel" "all" "[I" ∈ ds_gw := ds_g (ds_t4 172 (by decide +kernel)) rfl
theorem kw_595 : Cond.methodLink RX8 55 yX8_rest ∈ ds_gw := ds_g (ds_t5 75 (by decide +kernel)) rfl
theorem kw_596 : Cond.static yX8_rest ∈ ds_gw := ds_g (ds_t5 76 (by decide +kernel)) rfl
theorem kw_597 : Cond.initialized RX8 ∈ ds_gw := ds_g (ds_t1 8 (by decide +kernel)) rfl
theorem kw_598 : Cond.code yX8_rest cX8_rest 3 (some .int) ∈ ds_gw := ds_g (ds_t5 77 (by decide +kernel)) rfl
theorem kw_599 : Cond.methodLink RX8 59 yX8_at ∈ ds_gw := ds_g (ds_t5 71 (by decide +kernel)) rfl
theorem kw_600 : Cond.instanceMethod yX8_at ∈ ds_gw := ds_g (ds_t5 73 (by decide +kernel)) rfl
theorem kw_601 : Cond.selects RX8 yX8_at yX8_at ∈ ds_gw := ds_g (ds_sel (y := yX8_at) 29 (ds_p3 2 (by decide +kernel))) rfl
theorem kw_602 : Cond.code yX8_at cX8_at 3 (some .int) ∈ ds_gw := ds_g (ds_t5 74 (by decide +kernel)) rfl
theorem kw_603 : Cond.fieldLink RX8 7 "OrnamentDeskModel" "plans" "[I" ∈ ds_gw := ds_g (ds_t4 168 (by decide +kernel)) rfl
theorem kw_604 : Cond.methodLink RX8 62 yX8_turnings ∈ ds_gw := ds_g (ds_t5 86 (by decide +kernel)) rfl
theorem kw_605 : Cond.instanceMethod yX8_turnings ∈ ds_gw := ds_g (ds_t5 88 (by decide +kernel)) rfl
theorem kw_606 : Cond.selects RX8 yX8_turnings yX8_turnings ∈ ds_gw := ds_g (ds_sel (y := yX8_turnings) 29 (ds_p3 4 (by decide +kernel))) rfl
theorem kw_607 : Cond.code yX8_turnings cX8_turnings 1 (some .int) ∈ ds_gw := ds_g (ds_t5 89 (by decide +kernel)) rfl
theorem kw_608 : Cond.fieldLink RX8 22 "OrnamentDeskModel" "text" "[B" ∈ ds_gw := ds_g (ds_t4 173 (by decide +kernel)) rfl
theorem kw_609 : Cond.constantLong RX8 66 (255) ∈ ds_gw := ds_g (ds_t5 25 (by decide +kernel)) rfl
theorem kw_610 : Cond.fieldLink RX8 68 "OrnamentDeskModel" "reached" "I" ∈ ds_gw := ds_g (ds_t4 177 (by decide +kernel)) rfl
theorem kw_611 : Cond.fieldLink RX8 71 "OrnamentDeskModel" "length" "I" ∈ ds_gw := ds_g (ds_t4 178 (by decide +kernel)) rfl
theorem kw_612 : Cond.fieldLink RX8 87 "OrnamentDeskModel" "sort" "I" ∈ ds_gw := ds_g (ds_t4 181 (by decide +kernel)) rfl
theorem kw_613 : Cond.fieldLink RX8 80 "OrnamentDeskModel" "word" "J" ∈ ds_gw := ds_g (ds_t4 182 (by decide +kernel)) rfl
theorem kw_614 : Cond.fieldLink RX8 84 "OrnamentDeskModel" "letters" "I" ∈ ds_gw := ds_g (ds_t4 180 (by decide +kernel)) rfl
theorem kw_615 : Cond.methodLink RX8 74 yX8_see ∈ ds_gw := ds_g (ds_t5 34 (by decide +kernel)) rfl
theorem kw_616 : Cond.instanceMethod yX8_see ∈ ds_gw := ds_g (ds_t5 36 (by decide +kernel)) rfl
theorem kw_617 : Cond.selects RX8 yX8_see yX8_see ∈ ds_gw := ds_g (ds_sel (y := yX8_see) 29 (ds_p2 12 (by decide +kernel))) rfl
theorem kw_618 : Cond.code yX8_see cX8_see 1 (some .int) ∈ ds_gw := ds_g (ds_t5 37 (by decide +kernel)) rfl
theorem kw_619 : Cond.methodLink RX8 90 yX8_in ∈ ds_gw := ds_g (ds_t5 38 (by decide +kernel)) rfl
theorem kw_620 : Cond.static yX8_in ∈ ds_gw := ds_g (ds_t5 39 (by decide +kernel)) rfl
theorem kw_621 : Cond.code yX8_in cX8_in 3 (some .boolean) ∈ ds_gw := ds_g (ds_t5 40 (by decide +kernel)) rfl
theorem kw_622 : Cond.fieldLink RX8 77 "OrnamentDeskModel" "begin" "I" ∈ ds_gw := ds_g (ds_t4 179 (by decide +kernel)) rfl
theorem kw_623 : Cond.fieldLink RX8 94 "OrnamentDeskModel" "wrongAt" "I" ∈ ds_gw := ds_g (ds_t4 183 (by decide +kernel)) rfl
theorem kw_624 : Cond.fieldLink RX8 115 "OrnamentDeskModel" "bad" "I" ∈ ds_gw := ds_g (ds_t4 185 (by decide +kernel)) rfl
theorem kw_625 : Cond.fieldLink RX8 118 "OrnamentDeskModel" "badAt" "I" ∈ ds_gw := ds_g (ds_t4 184 (by decide +kernel)) rfl
theorem kw_626 : Cond.methodLink RX8 101 yX8_token ∈ ds_gw := ds_g (ds_t5 30 (by decide +kernel)) rfl
theorem kw_627 : Cond.instanceMethod yX8_token ∈ ds_gw := ds_g (ds_t5 32 (by decide +kernel)) rfl
theorem kw_628 : Cond.selects RX8 yX8_token yX8_token ∈ ds_gw := ds_g (ds_sel (y := yX8_token) 29 (ds_p2 11 (by decide +kernel))) rfl
theorem kw_629 : Cond.code yX8_token cX8_token 2 none ∈ ds_gw := ds_g (ds_t5 33 (by decide +kernel)) rfl
theorem kw_630 : Cond.fieldLink RX8 33 "OrnamentDeskModel" "told" "[I" ∈ ds_gw := ds_g (ds_t4 186 (by decide +kernel)) rfl
theorem kw_631 : Cond.methodLink RX8 111 yX8_isBad ∈ ds_gw := ds_g (ds_t5 55 (by decide +kernel)) rfl
theorem kw_632 : Cond.instanceMethod yX8_isBad ∈ ds_gw := ds_g (ds_t5 57 (by decide +kernel)) rfl
theorem kw_633 : Cond.selects RX8 yX8_isBad yX8_isBad ∈ ds_gw := ds_g (ds_sel (y := yX8_isBad) 29 (ds_p3 0 (by decide +kernel))) rfl
theorem kw_634 : Cond.code yX8_isBad cX8_isBad 2 none ∈ ds_gw := ds_g (ds_t5 58 (by decide +kernel)) rfl
theorem kw_635 : Cond.methodLink RX8 104 yX8_isRow ∈ ds_gw := ds_g (ds_t5 47 (by decide +kernel)) rfl
theorem kw_636 : Cond.instanceMethod yX8_isRow ∈ ds_gw := ds_g (ds_t5 49 (by decide +kernel)) rfl
theorem kw_637 : Cond.selects RX8 yX8_isRow yX8_isRow ∈ ds_gw := ds_g (ds_sel (y := yX8_isRow) 29 (ds_p2 14 (by decide +kernel))) rfl
theorem kw_638 : Cond.code yX8_isRow cX8_isRow 2 (some .boolean) ∈ ds_gw := ds_g (ds_t5 50 (by decide +kernel)) rfl
theorem kw_639 : Cond.methodLink RX8 108 yX8_fails ∈ ds_gw := ds_g (ds_t5 51 (by decide +kernel)) rfl
theorem kw_640 : Cond.instanceMethod yX8_fails ∈ ds_gw := ds_g (ds_t5 53 (by decide +kernel)) rfl
theorem kw_641 : Cond.selects RX8 yX8_fails yX8_fails ∈ ds_gw := ds_g (ds_sel (y := yX8_fails) 29 (ds_p2 15 (by decide +kernel))) rfl
theorem kw_642 : Cond.code yX8_fails cX8_fails 1 (some .boolean) ∈ ds_gw := ds_g (ds_t5 54 (by decide +kernel)) rfl
theorem kw_643 : Cond.constantLong RX8 99 (6841720) ∈ ds_gw := ds_g (ds_t5 46 (by decide +kernel)) rfl
theorem kw_644 : Cond.constantLong RX8 97 (126931137819237) ∈ ds_gw := ds_g (ds_t5 45 (by decide +kernel)) rfl
theorem kw_645 : Cond.fieldLink RX8 124 "OrnamentDeskModel" "undos" "I" ∈ ds_gw := ds_g (ds_t4 176 (by decide +kernel)) rfl
theorem kw_646 : Cond.methodLink RX8 121 yX8_line ∈ ds_gw := ds_g (ds_t5 41 (by decide +kernel)) rfl
theorem kw_647 : Cond.instanceMethod yX8_line ∈ ds_gw := ds_g (ds_t5 43 (by decide +kernel)) rfl
theorem kw_648 : Cond.selects RX8 yX8_line yX8_line ∈ ds_gw := ds_g (ds_sel (y := yX8_line) 29 (ds_p2 13 (by decide +kernel))) rfl
theorem kw_649 : Cond.code yX8_line cX8_line 2 (some .boolean) ∈ ds_gw := ds_g (ds_t5 44 (by decide +kernel)) rfl
theorem kw_650 : Cond.fieldLink RX8 36 "OrnamentDeskModel" "shift" "[Z" ∈ ds_gw := ds_g (ds_t4 187 (by decide +kernel)) rfl
theorem kw_651 : Cond.methodLink RX8 127 yX8_colour ∈ ds_gw := ds_g (ds_t5 67 (by decide +kernel)) rfl
theorem kw_652 : Cond.instanceMethod yX8_colour ∈ ds_gw := ds_g (ds_t5 69 (by decide +kernel)) rfl
theorem kw_653 : Cond.selects RX8 yX8_colour yX8_colour ∈ ds_gw := ds_g (ds_sel (y := yX8_colour) 29 (ds_p3 1 (by decide +kernel))) rfl
theorem kw_654 : Cond.code yX8_colour cX8_colour 3 (some .int) ∈ ds_gw := ds_g (ds_t5 70 (by decide +kernel)) rfl
theorem kw_655 : Cond.methodLink RX8 130 yX8_turnX ∈ ds_gw := ds_g (ds_t5 94 (by decide +kernel)) rfl
theorem kw_656 : Cond.instanceMethod yX8_turnX ∈ ds_gw := ds_g (ds_t5 96 (by decide +kernel)) rfl
theorem kw_657 : Cond.selects RX8 yX8_turnX yX8_turnX ∈ ds_gw := ds_g (ds_sel (y := yX8_turnX) 29 (ds_p3 6 (by decide +kernel))) rfl
theorem kw_658 : Cond.code yX8_turnX cX8_turnX 5 (some .int) ∈ ds_gw := ds_g (ds_t5 97 (by decide +kernel)) rfl
theorem kw_659 : Cond.methodLink RX8 134 yX8_turnY ∈ ds_gw := ds_g (ds_t5 98 (by decide +kernel)) rfl
theorem kw_660 : Cond.instanceMethod yX8_turnY ∈ ds_gw := ds_g (ds_t5 100 (by decide +kernel)) rfl
theorem kw_661 : Cond.selects RX8 yX8_turnY yX8_turnY ∈ ds_gw := ds_g (ds_sel (y := yX8_turnY) 29 (ds_p3 7 (by decide +kernel))) rfl
theorem kw_662 : Cond.code yX8_turnY cX8_turnY 5 (some .int) ∈ ds_gw := ds_g (ds_t5 101 (by decide +kernel)) rfl
theorem kw_663 : Cond.methodLink RX8 137 yX8_isStep ∈ ds_gw := ds_g (ds_t5 102 (by decide +kernel)) rfl
theorem kw_664 : Cond.instanceMethod yX8_isStep ∈ ds_gw := ds_g (ds_t5 104 (by decide +kernel)) rfl
theorem kw_665 : Cond.selects RX8 yX8_isStep yX8_isStep ∈ ds_gw := ds_g (ds_sel (y := yX8_isStep) 29 (ds_p3 8 (by decide +kernel))) rfl
theorem kw_666 : Cond.code yX8_isStep cX8_isStep 3 (some .boolean) ∈ ds_gw := ds_g (ds_t5 105 (by decide +kernel)) rfl
theorem kw_667 : Cond.methodLink RX8 145 yX8_isAlike ∈ ds_gw := ds_g (ds_t5 106 (by decide +kernel)) rfl
theorem kw_668 : Cond.instanceMethod yX8_isAlike ∈ ds_gw := ds_g (ds_t5 108 (by decide +kernel)) rfl
theorem kw_669 : Cond.selects RX8 yX8_isAlike yX8_isAlike ∈ ds_gw := ds_g (ds_sel (y := yX8_isAlike) 29 (ds_p3 9 (by decide +kernel))) rfl
theorem kw_670 : Cond.code yX8_isAlike cX8_isAlike 6 (some .boolean) ∈ ds_gw := ds_g (ds_t5 109 (by decide +kernel)) rfl
theorem kw_671 : Cond.methodLink RX8 141 yX8_mayTurn ∈ ds_gw := ds_g (ds_t5 90 (by decide +kernel)) rfl
theorem kw_672 : Cond.instanceMethod yX8_mayTurn ∈ ds_gw := ds_g (ds_t5 92 (by decide +kernel)) rfl
theorem kw_673 : Cond.selects RX8 yX8_mayTurn yX8_mayTurn ∈ ds_gw := ds_g (ds_sel (y := yX8_mayTurn) 29 (ds_p3 5 (by decide +kernel))) rfl
theorem kw_674 : Cond.code yX8_mayTurn cX8_mayTurn 2 (some .boolean) ∈ ds_gw := ds_g (ds_t5 93 (by decide +kernel)) rfl
theorem kw_675 : Cond.methodLink RX8 148 yX8_longOf ∈ ds_gw := ds_g (ds_t5 130 (by decide +kernel)) rfl
theorem kw_676 : Cond.instanceMethod yX8_longOf ∈ ds_gw := ds_g (ds_t5 132 (by decide +kernel)) rfl
theorem kw_677 : Cond.selects RX8 yX8_longOf yX8_longOf ∈ ds_gw := ds_g (ds_sel (y := yX8_longOf) 29 (ds_p3 15 (by decide +kernel))) rfl
theorem kw_678 : Cond.code yX8_longOf cX8_longOf 3 (some .int) ∈ ds_gw := ds_g (ds_t5 133 (by decide +kernel)) rfl
theorem kw_679 : Cond.fieldLink RX8 157 "OrnamentDeskModel" "secondX" "I" ∈ ds_gw := ds_g (ds_t4 190 (by decide +kernel)) rfl
theorem kw_680 : Cond.fieldLink RX8 160 "OrnamentDeskModel" "secondY" "I" ∈ ds_gw := ds_g (ds_t4 191 (by decide +kernel)) rfl
theorem kw_681 : Cond.methodLink RX8 163 yX8_isAhead ∈ ds_gw := ds_g (ds_t5 126 (by decide +kernel)) rfl
theorem kw_682 : Cond.instanceMethod yX8_isAhead ∈ ds_gw := ds_g (ds_t5 128 (by decide +kernel)) rfl
theorem kw_683 : Cond.selects RX8 yX8_isAhead yX8_isAhead ∈ ds_gw := ds_g (ds_sel (y := yX8_isAhead) 29 (ds_p3 14 (by decide +kernel))) rfl
theorem kw_684 : Cond.code yX8_isAhead cX8_isAhead 6 (some .boolean) ∈ ds_gw := ds_g (ds_t5 129 (by decide +kernel)) rfl
theorem kw_685 : Cond.fieldLink RX8 154 "OrnamentDeskModel" "firstY" "I" ∈ ds_gw := ds_g (ds_t4 189 (by decide +kernel)) rfl
theorem kw_686 : Cond.fieldLink RX8 151 "OrnamentDeskModel" "firstX" "I" ∈ ds_gw := ds_g (ds_t4 188 (by decide +kernel)) rfl
theorem kw_687 : Cond.methodLink RX8 167 yX8_shiftsOf ∈ ds_gw := ds_g (ds_t5 110 (by decide +kernel)) rfl
theorem kw_688 : Cond.instanceMethod yX8_shiftsOf ∈ ds_gw := ds_g (ds_t5 112 (by decide +kernel)) rfl
theorem kw_689 : Cond.selects RX8 yX8_shiftsOf yX8_shiftsOf ∈ ds_gw := ds_g (ds_sel (y := yX8_shiftsOf) 29 (ds_p3 10 (by decide +kernel))) rfl
theorem kw_690 : Cond.code yX8_shiftsOf cX8_shiftsOf 5 (some .int) ∈ ds_gw := ds_g (ds_t5 113 (by decide +kernel)) rfl
theorem kw_691 : Cond.methodLink RX8 171 yX8_isFlip ∈ ds_gw := ds_g (ds_t5 142 (by decide +kernel)) rfl
theorem kw_692 : Cond.instanceMethod yX8_isFlip ∈ ds_gw := ds_g (ds_t5 144 (by decide +kernel)) rfl
theorem kw_693 : Cond.selects RX8 yX8_isFlip yX8_isFlip ∈ ds_gw := ds_g (ds_sel (y := yX8_isFlip) 29 (ds_p4 2 (by decide +kernel))) rfl
theorem kw_694 : Cond.code yX8_isFlip cX8_isFlip 2 (some .boolean) ∈ ds_gw := ds_g (ds_t5 145 (by decide +kernel)) rfl
theorem kw_695 : Cond.methodLink RX8 174 yX8_isShiftOf ∈ ds_gw := ds_g (ds_t5 158 (by decide +kernel)) rfl
theorem kw_696 : Cond.instanceMethod yX8_isShiftOf ∈ ds_gw := ds_g (ds_t5 160 (by decide +kernel)) rfl
theorem kw_697 : Cond.selects RX8 yX8_isShiftOf yX8_isShiftOf ∈ ds_gw := ds_g (ds_sel (y := yX8_isShiftOf) 29 (ds_p4 6 (by decide +kernel))) rfl
theorem kw_698 : Cond.code yX8_isShiftOf cX8_isShiftOf 4 (some .boolean) ∈ ds_gw := ds_g (ds_t5 161 (by decide +kernel)) rfl
theorem kw_699 : Cond.methodLink RX8 177 yX8_isParted ∈ ds_gw := ds_g (ds_t5 150 (by decide +kernel)) rfl
theorem kw_700 : Cond.instanceMethod yX8_isParted ∈ ds_gw := ds_g (ds_t5 152 (by decide +kernel)) rfl
theorem kw_701 : Cond.selects RX8 yX8_isParted yX8_isParted ∈ ds_gw := ds_g (ds_sel (y := yX8_isParted) 29 (ds_p4 4 (by decide +kernel))) rfl
theorem kw_702 : Cond.code yX8_isParted cX8_isParted 6 (some .boolean) ∈ ds_gw := ds_g (ds_t5 153 (by decide +kernel)) rfl
theorem kw_703 : Cond.methodLink RX8 180 yX8_isFlipThere ∈ ds_gw := ds_g (ds_t5 138 (by decide +kernel)) rfl
theorem kw_704 : Cond.instanceMethod yX8_isFlipThere ∈ ds_gw := ds_g (ds_t5 140 (by decide +kernel)) rfl
theorem kw_705 : Cond.selects RX8 yX8_isFlipThere yX8_isFlipThere ∈ ds_gw := ds_g (ds_sel (y := yX8_isFlipThere) 29 (ds_p4 1 (by decide +kernel))) rfl
theorem kw_706 : Cond.code yX8_isFlipThere cX8_isFlipThere 2 (some .boolean) ∈ ds_gw := ds_g (ds_t5 141 (by decide +kernel)) rfl
theorem kw_707 : Cond.methodLink RX8 186 yX8_isMirror ∈ ds_gw := ds_g (ds_t5 154 (by decide +kernel)) rfl
theorem kw_708 : Cond.instanceMethod yX8_isMirror ∈ ds_gw := ds_g (ds_t5 156 (by decide +kernel)) rfl
theorem kw_709 : Cond.selects RX8 yX8_isMirror yX8_isMirror ∈ ds_gw := ds_g (ds_sel (y := yX8_isMirror) 29 (ds_p4 5 (by decide +kernel))) rfl
theorem kw_710 : Cond.code yX8_isMirror cX8_isMirror 6 (some .boolean) ∈ ds_gw := ds_g (ds_t5 157 (by decide +kernel)) rfl
theorem kw_711 : Cond.methodLink RX8 183 yX8_areParted ∈ ds_gw := ds_g (ds_t5 146 (by decide +kernel)) rfl
theorem kw_712 : Cond.instanceMethod yX8_areParted ∈ ds_gw := ds_g (ds_t5 148 (by decide +kernel)) rfl
theorem kw_713 : Cond.selects RX8 yX8_areParted yX8_areParted ∈ ds_gw := ds_g (ds_sel (y := yX8_areParted) 29 (ds_p4 3 (by decide +kernel))) rfl
theorem kw_714 : Cond.code yX8_areParted cX8_areParted 5 (some .boolean) ∈ ds_gw := ds_g (ds_t5 149 (by decide +kernel)) rfl
theorem kw_715 : Cond.methodLink RX8 189 yX8_isFirstLeft ∈ ds_gw := ds_g (ds_t5 170 (by decide +kernel)) rfl
theorem kw_716 : Cond.instanceMethod yX8_isFirstLeft ∈ ds_gw := ds_g (ds_t5 172 (by decide +kernel)) rfl
theorem kw_717 : Cond.selects RX8 yX8_isFirstLeft yX8_isFirstLeft ∈ ds_gw := ds_g (ds_sel (y := yX8_isFirstLeft) 29 (ds_p4 9 (by decide +kernel))) rfl
theorem kw_718 : Cond.code yX8_isFirstLeft cX8_isFirstLeft 2 (some .boolean) ∈ ds_gw := ds_g (ds_t5 173 (by decide +kernel)) rfl
theorem kw_719 : Cond.methodLink RX8 192 yX8_laysSteps ∈ ds_gw := ds_g (ds_t5 122 (by decide +kernel)) rfl
theorem kw_720 : Cond.instanceMethod yX8_laysSteps ∈ ds_gw := ds_g (ds_t5 124 (by decide +kernel)) rfl
theorem kw_721 : Cond.selects RX8 yX8_laysSteps yX8_laysSteps ∈ ds_gw := ds_g (ds_sel (y := yX8_laysSteps) 29 (ds_p3 13 (by decide +kernel))) rfl
theorem kw_722 : Cond.code yX8_laysSteps cX8_laysSteps 4 none ∈ ds_gw := ds_g (ds_t5 125 (by decide +kernel)) rfl
theorem kw_723 : Cond.methodLink RX8 195 yX8_order ∈ ds_gw := ds_g (ds_t5 114 (by decide +kernel)) rfl
theorem kw_724 : Cond.instanceMethod yX8_order ∈ ds_gw := ds_g (ds_t5 116 (by decide +kernel)) rfl
theorem kw_725 : Cond.selects RX8 yX8_order yX8_order ∈ ds_gw := ds_g (ds_sel (y := yX8_order) 29 (ds_p3 11 (by decide +kernel))) rfl
theorem kw_726 : Cond.code yX8_order cX8_order 3 (some .int) ∈ ds_gw := ds_g (ds_t5 117 (by decide +kernel)) rfl
theorem kw_727 : Cond.methodLink RX8 198 yX8_flips ∈ ds_gw := ds_g (ds_t5 134 (by decide +kernel)) rfl
theorem kw_728 : Cond.instanceMethod yX8_flips ∈ ds_gw := ds_g (ds_t5 136 (by decide +kernel)) rfl
theorem kw_729 : Cond.selects RX8 yX8_flips yX8_flips ∈ ds_gw := ds_g (ds_sel (y := yX8_flips) 29 (ds_p4 0 (by decide +kernel))) rfl
theorem kw_730 : Cond.code yX8_flips cX8_flips 4 (some .int) ∈ ds_gw := ds_g (ds_t5 137 (by decide +kernel)) rfl
theorem kw_731 : Cond.methodLink RX8 201 yX8_isShortTurned ∈ ds_gw := ds_g (ds_t5 162 (by decide +kernel)) rfl
theorem kw_732 : Cond.instanceMethod yX8_isShortTurned ∈ ds_gw := ds_g (ds_t5 164 (by decide +kernel)) rfl
theorem kw_733 : Cond.selects RX8 yX8_isShortTurned yX8_isShortTurned ∈ ds_gw := ds_g (ds_sel (y := yX8_isShortTurned) 29 (ds_p4 7 (by decide +kernel))) rfl
theorem kw_734 : Cond.code yX8_isShortTurned cX8_isShortTurned 4 (some .boolean) ∈ ds_gw := ds_g (ds_t5 165 (by decide +kernel)) rfl
theorem kw_735 : Cond.methodLink RX8 204 yX8_isFirstMirror ∈ ds_gw := ds_g (ds_t5 166 (by decide +kernel)) rfl
theorem kw_736 : Cond.instanceMethod yX8_isFirstMirror ∈ ds_gw := ds_g (ds_t5 168 (by decide +kernel)) rfl
theorem kw_737 : Cond.selects RX8 yX8_isFirstMirror yX8_isFirstMirror ∈ ds_gw := ds_g (ds_sel (y := yX8_isFirstMirror) 29 (ds_p4 8 (by decide +kernel))) rfl
theorem kw_738 : Cond.code yX8_isFirstMirror cX8_isFirstMirror 2 (some .boolean) ∈ ds_gw := ds_g (ds_t5 169 (by decide +kernel)) rfl
theorem kw_739 : Cond.fieldLink RX8 39 "OrnamentDeskModel" "rootOf" "[I" ∈ ds_gw := ds_g (ds_t4 192 (by decide +kernel)) rfl
theorem kw_740 : Cond.methodLink RX8 207 yX8_root ∈ ds_gw := ds_g (ds_t5 194 (by decide +kernel)) rfl
theorem kw_741 : Cond.instanceMethod yX8_root ∈ ds_gw := ds_g (ds_t5 196 (by decide +kernel)) rfl
theorem kw_742 : Cond.selects RX8 yX8_root yX8_root ∈ ds_gw := ds_g (ds_sel (y := yX8_root) 29 (ds_p4 15 (by decide +kernel))) rfl
theorem kw_743 : Cond.code yX8_root cX8_root 3 (some .int) ∈ ds_gw := ds_g (ds_t5 197 (by decide +kernel)) rfl
theorem kw_744 : Cond.methodLink RX8 210 yX8_joins ∈ ds_gw := ds_g (ds_t5 190 (by decide +kernel)) rfl
theorem kw_745 : Cond.instanceMethod yX8_joins ∈ ds_gw := ds_g (ds_t5 192 (by decide +kernel)) rfl
theorem kw_746 : Cond.selects RX8 yX8_joins yX8_joins ∈ ds_gw := ds_g (ds_sel (y := yX8_joins) 29 (ds_p4 14 (by decide +kernel))) rfl
theorem kw_747 : Cond.code yX8_joins cX8_joins 5 none ∈ ds_gw := ds_g (ds_t5 193 (by decide +kernel)) rfl
theorem kw_748 : Cond.methodLink RX8 217 yX8_joinsBy ∈ ds_gw := ds_g (ds_t5 186 (by decide +kernel)) rfl
theorem kw_749 : Cond.instanceMethod yX8_joinsBy ∈ ds_gw := ds_g (ds_t5 188 (by decide +kernel)) rfl
theorem kw_750 : Cond.selects RX8 yX8_joinsBy yX8_joinsBy ∈ ds_gw := ds_g (ds_sel (y := yX8_joinsBy) 29 (ds_p4 13 (by decide +kernel))) rfl
theorem kw_751 : Cond.code yX8_joinsBy cX8_joinsBy 6 none ∈ ds_gw := ds_g (ds_t5 189 (by decide +kernel)) rfl
theorem kw_752 : Cond.methodLink RX8 214 yX8_alone ∈ ds_gw := ds_g (ds_t5 182 (by decide +kernel)) rfl
theorem kw_753 : Cond.instanceMethod yX8_alone ∈ ds_gw := ds_g (ds_t5 184 (by decide +kernel)) rfl
theorem kw_754 : Cond.selects RX8 yX8_alone yX8_alone ∈ ds_gw := ds_g (ds_sel (y := yX8_alone) 29 (ds_p4 12 (by decide +kernel))) rfl
theorem kw_755 : Cond.code yX8_alone cX8_alone 2 none ∈ ds_gw := ds_g (ds_t5 185 (by decide +kernel)) rfl
theorem kw_756 : Cond.methodLink RX8 221 yX8_laysKinds ∈ ds_gw := ds_g (ds_t5 178 (by decide +kernel)) rfl
theorem kw_757 : Cond.instanceMethod yX8_laysKinds ∈ ds_gw := ds_g (ds_t5 180 (by decide +kernel)) rfl
theorem kw_758 : Cond.selects RX8 yX8_laysKinds yX8_laysKinds ∈ ds_gw := ds_g (ds_sel (y := yX8_laysKinds) 29 (ds_p4 11 (by decide +kernel))) rfl
theorem kw_759 : Cond.code yX8_laysKinds cX8_laysKinds 4 none ∈ ds_gw := ds_g (ds_t5 181 (by decide +kernel)) rfl
theorem kw_760 : Cond.methodLink RX8 224 yX8_leaders ∈ ds_gw := ds_g (ds_t5 198 (by decide +kernel)) rfl
theorem kw_761 : Cond.instanceMethod yX8_leaders ∈ ds_gw := ds_g (ds_t5 200 (by decide +kernel)) rfl
theorem kw_762 : Cond.selects RX8 yX8_leaders yX8_leaders ∈ ds_gw := ds_g (ds_sel (y := yX8_leaders) 29 (ds_p5 0 (by decide +kernel))) rfl
theorem kw_763 : Cond.code yX8_leaders cX8_leaders 5 (some .int) ∈ ds_gw := ds_g (ds_t5 201 (by decide +kernel)) rfl
theorem kw_764 : Cond.methodLink RX8 227 yX8_laysShifts ∈ ds_gw := ds_g (ds_t5 82 (by decide +kernel)) rfl
theorem kw_765 : Cond.instanceMethod yX8_laysShifts ∈ ds_gw := ds_g (ds_t5 84 (by decide +kernel)) rfl
theorem kw_766 : Cond.selects RX8 yX8_laysShifts yX8_laysShifts ∈ ds_gw := ds_g (ds_sel (y := yX8_laysShifts) 29 (ds_p3 3 (by decide +kernel))) rfl
theorem kw_767 : Cond.code yX8_laysShifts cX8_laysShifts 5 none ∈ ds_gw := ds_g (ds_t5 85 (by decide +kernel)) rfl
theorem kw_768 : Cond.methodLink RX8 230 yX8_cls ∈ ds_gw := ds_g (ds_t5 118 (by decide +kernel)) rfl
theorem kw_769 : Cond.instanceMethod yX8_cls ∈ ds_gw := ds_g (ds_t5 120 (by decide +kernel)) rfl
theorem kw_770 : Cond.selects RX8 yX8_cls yX8_cls ∈ ds_gw := ds_g (ds_sel (y := yX8_cls) 29 (ds_p3 12 (by decide +kernel))) rfl
theorem kw_771 : Cond.code yX8_cls cX8_cls 5 (some .int) ∈ ds_gw := ds_g (ds_t5 121 (by decide +kernel)) rfl
theorem kw_772 : Cond.methodLink RX8 233 yX8_kinds ∈ ds_gw := ds_g (ds_t5 174 (by decide +kernel)) rfl
theorem kw_773 : Cond.instanceMethod yX8_kinds ∈ ds_gw := ds_g (ds_t5 176 (by decide +kernel)) rfl
theorem kw_774 : Cond.selects RX8 yX8_kinds yX8_kinds ∈ ds_gw := ds_g (ds_sel (y := yX8_kinds) 29 (ds_p4 10 (by decide +kernel))) rfl
theorem kw_775 : Cond.code yX8_kinds cX8_kinds 1 (some .int) ∈ ds_gw := ds_g (ds_t5 177 (by decide +kernel)) rfl
theorem kw_776 : Cond.methodLink RX8 236 yX8_coloursThere ∈ ds_gw := ds_g (ds_t5 202 (by decide +kernel)) rfl
theorem kw_777 : Cond.instanceMethod yX8_coloursThere ∈ ds_gw := ds_g (ds_t5 204 (by decide +kernel)) rfl
theorem kw_778 : Cond.selects RX8 yX8_coloursThere yX8_coloursThere ∈ ds_gw := ds_g (ds_sel (y := yX8_coloursThere) 29 (ds_p5 1 (by decide +kernel))) rfl
theorem kw_779 : Cond.code yX8_coloursThere cX8_coloursThere 4 (some .int) ∈ ds_gw := ds_g (ds_t5 205 (by decide +kernel)) rfl
theorem kw_780 : Cond.methodLink RX8 239 yX8_ones ∈ ds_gw := ds_g (ds_t5 206 (by decide +kernel)) rfl
theorem kw_781 : Cond.static yX8_ones ∈ ds_gw := ds_g (ds_t5 207 (by decide +kernel)) rfl
theorem kw_782 : Cond.code yX8_ones cX8_ones 3 (some .int) ∈ ds_gw := ds_g (ds_t5 208 (by decide +kernel)) rfl
theorem kw_783 : Cond.methodLink RX8 242 yX8_turnBits ∈ ds_gw := ds_g (ds_t5 209 (by decide +kernel)) rfl
theorem kw_784 : Cond.instanceMethod yX8_turnBits ∈ ds_gw := ds_g (ds_t5 211 (by decide +kernel)) rfl
theorem kw_785 : Cond.selects RX8 yX8_turnBits yX8_turnBits ∈ ds_gw := ds_g (ds_sel (y := yX8_turnBits) 29 (ds_p5 2 (by decide +kernel))) rfl
theorem kw_786 : Cond.code yX8_turnBits cX8_turnBits 3 (some .int) ∈ ds_gw := ds_g (ds_t5 212 (by decide +kernel)) rfl
theorem kw_787 : Cond.methodLink RX8 245 yX8_cellsOf ∈ ds_gw := ds_g (ds_t5 213 (by decide +kernel)) rfl
theorem kw_788 : Cond.instanceMethod yX8_cellsOf ∈ ds_gw := ds_g (ds_t5 215 (by decide +kernel)) rfl
theorem kw_789 : Cond.selects RX8 yX8_cellsOf yX8_cellsOf ∈ ds_gw := ds_g (ds_sel (y := yX8_cellsOf) 29 (ds_p5 3 (by decide +kernel))) rfl
theorem kw_790 : Cond.code yX8_cellsOf cX8_cellsOf 5 (some .int) ∈ ds_gw := ds_g (ds_t5 216 (by decide +kernel)) rfl
theorem kw_791 : Cond.methodLink RX8 248 yX8_turnsAt ∈ ds_gw := ds_g (ds_t5 233 (by decide +kernel)) rfl
theorem kw_792 : Cond.instanceMethod yX8_turnsAt ∈ ds_gw := ds_g (ds_t5 235 (by decide +kernel)) rfl
theorem kw_793 : Cond.selects RX8 yX8_turnsAt yX8_turnsAt ∈ ds_gw := ds_g (ds_sel (y := yX8_turnsAt) 29 (ds_p5 4 (by decide +kernel))) rfl
theorem kw_794 : Cond.code yX8_turnsAt cX8_turnsAt 8 (some .int) ∈ ds_gw := ds_g (ds_t5 236 (by decide +kernel)) rfl
theorem kw_795 : Cond.methodLink RX8 251 yX8_isStrip ∈ ds_gw := ds_g (ds_t6 9 (by decide +kernel)) rfl
theorem kw_796 : Cond.instanceMethod yX8_isStrip ∈ ds_gw := ds_g (ds_t6 11 (by decide +kernel)) rfl
theorem kw_797 : Cond.selects RX8 yX8_isStrip yX8_isStrip ∈ ds_gw := ds_g (ds_sel (y := yX8_isStrip) 29 (ds_p5 6 (by decide +kernel))) rfl
theorem kw_798 : Cond.code yX8_isStrip cX8_isStrip 7 (some .boolean) ∈ ds_gw := ds_g (ds_t6 12 (by decide +kernel)) rfl
theorem kw_799 : Cond.methodLink RX8 254 yX8_stripShifts ∈ ds_gw := ds_g (ds_t6 5 (by decide +kernel)) rfl
theorem kw_800 : Cond.instanceMethod yX8_stripShifts ∈ ds_gw := ds_g (ds_t6 7 (by decide +kernel)) rfl
theorem kw_801 : Cond.selects RX8 yX8_stripShifts yX8_stripShifts ∈ ds_gw := ds_g (ds_sel (y := yX8_stripShifts) 29 (ds_p5 5 (by decide +kernel))) rfl
theorem kw_802 : Cond.code yX8_stripShifts cX8_stripShifts 4 (some .int) ∈ ds_gw := ds_g (ds_t6 8 (by decide +kernel)) rfl
theorem kw_803 : Cond.fieldLink RX8 42 "OrnamentDeskModel" "becomes" "[I" ∈ ds_gw := ds_g (ds_t4 193 (by decide +kernel)) rfl
theorem kw_804 : Cond.fieldLink RX8 45 "OrnamentDeskModel" "comes" "[I" ∈ ds_gw := ds_g (ds_t4 194 (by decide +kernel)) rfl
theorem kw_805 : Cond.methodLink RX8 257 yX8_isColoured ∈ ds_gw := ds_g (ds_t6 17 (by decide +kernel)) rfl
theorem kw_806 : Cond.instanceMethod yX8_isColoured ∈ ds_gw := ds_g (ds_t6 19 (by decide +kernel)) rfl
theorem kw_807 : Cond.selects RX8 yX8_isColoured yX8_isColoured ∈ ds_gw := ds_g (ds_sel (y := yX8_isColoured) 29 (ds_p5 7 (by decide +kernel))) rfl
theorem kw_808 : Cond.code yX8_isColoured cX8_isColoured 8 (some .boolean) ∈ ds_gw := ds_g (ds_t6 20 (by decide +kernel)) rfl
theorem kw_809 : Cond.methodLink RX8 260 yX8_isLike ∈ ds_gw := ds_g (ds_t6 25 (by decide +kernel)) rfl
theorem kw_810 : Cond.instanceMethod yX8_isLike ∈ ds_gw := ds_g (ds_t6 27 (by decide +kernel)) rfl
theorem kw_811 : Cond.selects RX8 yX8_isLike yX8_isLike ∈ ds_gw := ds_g (ds_sel (y := yX8_isLike) 29 (ds_p5 8 (by decide +kernel))) rfl
theorem kw_812 : Cond.code yX8_isLike cX8_isLike 7 (some .boolean) ∈ ds_gw := ds_g (ds_t6 28 (by decide +kernel)) rfl
theorem kw_813 : Cond.fieldLink RX8 26 "OrnamentDeskModel" "saved" "[Z" ∈ ds_gw := ds_g (ds_t4 174 (by decide +kernel)) rfl
theorem kw_814 : Cond.fieldLink RX8 16 "OrnamentDeskModel" "halves" "[I" ∈ ds_gw := ds_g (ds_t4 170 (by decide +kernel)) rfl
theorem kw_815 : Cond.methodLink RX8 263 yX8_needsEven ∈ ds_gw := ds_g (ds_t6 37 (by decide +kernel)) rfl
theorem kw_816 : Cond.instanceMethod yX8_needsEven ∈ ds_gw := ds_g (ds_t6 39 (by decide +kernel)) rfl
theorem kw_817 : Cond.selects RX8 yX8_needsEven yX8_needsEven ∈ ds_gw := ds_g (ds_sel (y := yX8_needsEven) 29 (ds_p5 10 (by decide +kernel))) rfl
theorem kw_818 : Cond.code yX8_needsEven cX8_needsEven 2 (some .boolean) ∈ ds_gw := ds_g (ds_t6 40 (by decide +kernel)) rfl
theorem kw_819 : Cond.fieldLink RX8 13 "OrnamentDeskModel" "makers" "[I" ∈ ds_gw := ds_g (ds_t4 169 (by decide +kernel)) rfl
theorem kw_820 : Cond.methodLink RX8 266 yX8_ofColour ∈ ds_gw := ds_g (ds_t6 57 (by decide +kernel)) rfl
theorem kw_821 : Cond.instanceMethod yX8_ofColour ∈ ds_gw := ds_g (ds_t6 59 (by decide +kernel)) rfl
theorem kw_822 : Cond.selects RX8 yX8_ofColour yX8_ofColour ∈ ds_gw := ds_g (ds_sel (y := yX8_ofColour) 29 (ds_p5 15 (by decide +kernel))) rfl
theorem kw_823 : Cond.code yX8_ofColour cX8_ofColour 6 (some .int) ∈ ds_gw := ds_g (ds_t6 60 (by decide +kernel)) rfl
theorem kw_824 : Cond.methodLink RX8 269 yX8_orbitSize ∈ ds_gw := ds_g (ds_t6 49 (by decide +kernel)) rfl
theorem kw_825 : Cond.instanceMethod yX8_orbitSize ∈ ds_gw := ds_g (ds_t6 51 (by decide +kernel)) rfl
theorem kw_826 : Cond.selects RX8 yX8_orbitSize yX8_orbitSize ∈ ds_gw := ds_g (ds_sel (y := yX8_orbitSize) 29 (ds_p5 13 (by decide +kernel))) rfl
theorem kw_827 : Cond.code yX8_orbitSize cX8_orbitSize 5 (some .int) ∈ ds_gw := ds_g (ds_t6 52 (by decide +kernel)) rfl
theorem kw_828 : Cond.methodLink RX8 272 yX8_mostOf ∈ ds_gw := ds_g (ds_t6 53 (by decide +kernel)) rfl
theorem kw_829 : Cond.instanceMethod yX8_mostOf ∈ ds_gw := ds_g (ds_t6 55 (by decide +kernel)) rfl
theorem kw_830 : Cond.selects RX8 yX8_mostOf yX8_mostOf ∈ ds_gw := ds_g (ds_sel (y := yX8_mostOf) 29 (ds_p5 14 (by decide +kernel))) rfl
theorem kw_831 : Cond.code yX8_mostOf cX8_mostOf 4 (some .int) ∈ ds_gw := ds_g (ds_t6 56 (by decide +kernel)) rfl
theorem kw_832 : Cond.methodLink RX8 275 yX8_mayAsk ∈ ds_gw := ds_g (ds_t6 33 (by decide +kernel)) rfl
theorem kw_833 : Cond.instanceMethod yX8_mayAsk ∈ ds_gw := ds_g (ds_t6 35 (by decide +kernel)) rfl
theorem kw_834 : Cond.selects RX8 yX8_mayAsk yX8_mayAsk ∈ ds_gw := ds_g (ds_sel (y := yX8_mayAsk) 29 (ds_p5 9 (by decide +kernel))) rfl
theorem kw_835 : Cond.code yX8_mayAsk cX8_mayAsk 2 (some .boolean) ∈ ds_gw := ds_g (ds_t6 36 (by decide +kernel)) rfl
theorem kw_836 : Cond.methodLink RX8 278 yX8_laysOrbits ∈ ds_gw := ds_g (ds_t6 41 (by decide +kernel)) rfl
theorem kw_837 : Cond.instanceMethod yX8_laysOrbits ∈ ds_gw := ds_g (ds_t6 43 (by decide +kernel)) rfl
theorem kw_838 : Cond.selects RX8 yX8_laysOrbits yX8_laysOrbits ∈ ds_gw := ds_g (ds_sel (y := yX8_laysOrbits) 29 (ds_p5 11 (by decide +kernel))) rfl
theorem kw_839 : Cond.code yX8_laysOrbits cX8_laysOrbits 4 none ∈ ds_gw := ds_g (ds_t6 44 (by decide +kernel)) rfl
theorem kw_840 : Cond.methodLink RX8 281 yX8_flawed ∈ ds_gw := ds_g (ds_t6 45 (by decide +kernel)) rfl
theorem kw_841 : Cond.instanceMethod yX8_flawed ∈ ds_gw := ds_g (ds_t6 47 (by decide +kernel)) rfl
theorem kw_842 : Cond.selects RX8 yX8_flawed yX8_flawed ∈ ds_gw := ds_g (ds_sel (y := yX8_flawed) 29 (ds_p5 12 (by decide +kernel))) rfl
theorem kw_843 : Cond.code yX8_flawed cX8_flawed 5 (some .int) ∈ ds_gw := ds_g (ds_t6 48 (by decide +kernel)) rfl
theorem kw_844 : Cond.methodLink RX8 284 yX8_isCell ∈ ds_gw := ds_g (ds_t6 65 (by decide +kernel)) rfl
theorem kw_845 : Cond.instanceMethod yX8_isCell ∈ ds_gw := ds_g (ds_t6 67 (by decide +kernel)) rfl
theorem kw_846 : Cond.selects RX8 yX8_isCell yX8_isCell ∈ ds_gw := ds_g (ds_sel (y := yX8_isCell) 29 (ds_p6 0 (by decide +kernel))) rfl
theorem kw_847 : Cond.code yX8_isCell cX8_isCell 3 (some .boolean) ∈ ds_gw := ds_g (ds_t6 68 (by decide +kernel)) rfl
theorem kw_848 : Cond.fieldLink RX8 30 "OrnamentDeskModel" "undone" "[I" ∈ ds_gw := ds_g (ds_t4 175 (by decide +kernel)) rfl
theorem kw_849 : Cond.methodLink RX8 287 yX8_keeps ∈ ds_gw := ds_g (ds_t6 81 (by decide +kernel)) rfl
theorem kw_850 : Cond.instanceMethod yX8_keeps ∈ ds_gw := ds_g (ds_t6 83 (by decide +kernel)) rfl
theorem kw_851 : Cond.selects RX8 yX8_keeps yX8_keeps ∈ ds_gw := ds_g (ds_sel (y := yX8_keeps) 29 (ds_p6 1 (by decide +kernel))) rfl
theorem kw_852 : Cond.code yX8_keeps cX8_keeps 2 none ∈ ds_gw := ds_g (ds_t6 84 (by decide +kernel)) rfl
theorem kw_853 : Cond.fieldLink RX8 48 "OrnamentDeskModel" "next" "[I" ∈ ds_gw := ds_g (ds_t4 195 (by decide +kernel)) rfl
theorem kw_854 : Cond.methodLink RX8 293 yX8_isOther ∈ ds_gw := ds_g (ds_t6 93 (by decide +kernel)) rfl
theorem kw_855 : Cond.instanceMethod yX8_isOther ∈ ds_gw := ds_g (ds_t6 95 (by decide +kernel)) rfl
theorem kw_856 : Cond.selects RX8 yX8_isOther yX8_isOther ∈ ds_gw := ds_g (ds_sel (y := yX8_isOther) 29 (ds_p6 3 (by decide +kernel))) rfl
theorem kw_857 : Cond.code yX8_isOther cX8_isOther 3 (some .boolean) ∈ ds_gw := ds_g (ds_t6 96 (by decide +kernel)) rfl
theorem kw_858 : Cond.methodLink RX8 290 yX8_keepsNext ∈ ds_gw := ds_g (ds_t6 89 (by decide +kernel)) rfl
theorem kw_859 : Cond.instanceMethod yX8_keepsNext ∈ ds_gw := ds_g (ds_t6 91 (by decide +kernel)) rfl
theorem kw_860 : Cond.selects RX8 yX8_keepsNext yX8_keepsNext ∈ ds_gw := ds_g (ds_sel (y := yX8_keepsNext) 29 (ds_p6 2 (by decide +kernel))) rfl
theorem kw_861 : Cond.code yX8_keepsNext cX8_keepsNext 2 none ∈ ds_gw := ds_g (ds_t6 92 (by decide +kernel)) rfl
theorem kw_862 : Cond.fieldLink RX8 296 "OrnamentDeskModel" "x" "I" ∈ ds_gw := ds_g (ds_t4 196 (by decide +kernel)) rfl
theorem kw_863 : Cond.constant RX8 299 (1103515245) ∈ ds_gw := ds_g (ds_t6 117 (by decide +kernel)) rfl
theorem kw_864 : Cond.methodLink RX8 300 yX8_drawn ∈ ds_gw := ds_g (ds_t6 113 (by decide +kernel)) rfl
theorem kw_865 : Cond.instanceMethod yX8_drawn ∈ ds_gw := ds_g (ds_t6 115 (by decide +kernel)) rfl
theorem kw_866 : Cond.selects RX8 yX8_drawn yX8_drawn ∈ ds_gw := ds_g (ds_sel (y := yX8_drawn) 29 (ds_p6 4 (by decide +kernel))) rfl
theorem kw_867 : Cond.code yX8_drawn cX8_drawn 2 (some .int) ∈ ds_gw := ds_g (ds_t6 116 (by decide +kernel)) rfl
theorem kw_868 : Cond.methodLink RX8 303 yX8_leastStep ∈ ds_gw := ds_g (ds_t6 126 (by decide +kernel)) rfl
theorem kw_869 : Cond.instanceMethod yX8_leastStep ∈ ds_gw := ds_g (ds_t6 128 (by decide +kernel)) rfl
theorem kw_870 : Cond.selects RX8 yX8_leastStep yX8_leastStep ∈ ds_gw := ds_g (ds_sel (y := yX8_leastStep) 29 (ds_p6 5 (by decide +kernel))) rfl
theorem kw_871 : Cond.code yX8_leastStep cX8_leastStep 3 (some .int) ∈ ds_gw := ds_g (ds_t6 129 (by decide +kernel)) rfl
theorem kw_872 : Cond.methodLink RX8 307 yX8_copiesText ∈ ds_gw := ds_g (ds_t6 142 (by decide +kernel)) rfl
theorem kw_873 : Cond.instanceMethod yX8_copiesText ∈ ds_gw := ds_g (ds_t6 144 (by decide +kernel)) rfl
theorem kw_874 : Cond.selects RX8 yX8_copiesText yX8_copiesText ∈ ds_gw := ds_g (ds_sel (y := yX8_copiesText) 29 (ds_p6 6 (by decide +kernel))) rfl
theorem kw_875 : Cond.code yX8_copiesText cX8_copiesText 4 none ∈ ds_gw := ds_g (ds_t6 145 (by decide +kernel)) rfl
