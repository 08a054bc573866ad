theorem qw_0 : qw 0 = Cond.instanceMethod yX10_thiefDigest := rfl
theorem qw_1 : qw 1 = Cond.selects RX10 yX10_thiefDigest yX10_thiefDigest := rfl
theorem qw_2 : qw 2 = Cond.code yX10_thiefDigest cX10_thiefDigest 6 (some .long) := rfl
theorem qw_3 : qw 3 = Cond.methodLink RX10 308 yX10_numberDigest := rfl
theorem qw_4 : qw 4 = Cond.instanceMethod yX10_numberDigest := rfl
theorem qw_5 : qw 5 = Cond.selects RX10 yX10_numberDigest yX10_numberDigest := rfl
theorem qw_6 : qw 6 = Cond.code yX10_numberDigest cX10_numberDigest 6 (some .long) := rfl
theorem qw_7 : qw 7 = Cond.methodLink RX9 336 yX9_digestMoments := rfl
theorem qw_8 : qw 8 = Cond.instanceMethod yX9_digestMoments := rfl
theorem qw_9 : qw 9 = Cond.selects RX9 yX9_digestMoments yX9_digestMoments := rfl
theorem qw_10 : qw 10 = Cond.code yX9_digestMoments cX9_digestMoments 9 (some .long) := rfl
theorem qw_11 : qw 11 = Cond.fieldLink RX9 386 "CatBeat" "DIGESTED_MOMENTS" "[I" := rfl
theorem qw_12 : qw 12 = Cond.methodLink RX9 389 yX9_at := rfl
theorem qw_13 : qw 13 = Cond.methodLink RX9 392 yX9_sees := rfl
theorem qw_14 : qw 14 = Cond.methodLink RX9 339 yX9_safe := rfl
theorem qw_15 : qw 15 = Cond.methodLink RX9 342 yX9_first := rfl
theorem qw_16 : qw 16 = Cond.methodLink RX9 345 yX9_spare := rfl
theorem qw_17 : qw 17 = Cond.methodLink RX9 348 yX9_trim := rfl
theorem qw_18 : qw 18 = Cond.methodLink RX9 351 yX9_begin := rfl
theorem qw_19 : qw 19 = Cond.methodLink RX9 354 yX9_recruit := rfl
theorem qw_20 : qw 20 = Cond.methodLink RX9 357 yX9_omitted := rfl
theorem qw_21 : qw 21 = Cond.methodLink RX9 360 yX9_ask := rfl
theorem qw_22 : qw 22 = Cond.methodLink RX9 363 yX9_nights := rfl
theorem qw_23 : qw 23 = Cond.methodLink RL 160 yX10_digest := rfl
theorem qw_24 : qw 24 = Cond.instanceMethod yX10_digest := rfl
theorem qw_25 : qw 25 = Cond.selects RX10 yX10_digest yX10_digest := rfl
theorem qw_26 : qw 26 = Cond.code yX10_digest cX10_digest 4 (some .long) := rfl
theorem qw_27 : qw 27 = Cond.constantLong RX10 299 (17) := rfl
theorem qw_28 : qw 28 = Cond.constantLong RX10 297 (31) := rfl
theorem qw_29 : qw 29 = Cond.methodLink RX10 301 yX10_count := rfl
theorem qw_30 : qw 30 = Cond.methodLink RX10 304 yX10_thiefDigest := rfl
theorem qw_31 : qw 31 = Cond.code yX10_sumOf cX10_sumOf 4 (some .int) := rfl
theorem qw_32 : qw 32 = Cond.methodLink RL 156 yX9_digest := rfl
theorem qw_33 : qw 33 = Cond.instanceMethod yX9_digest := rfl
theorem qw_34 : qw 34 = Cond.selects RX9 yX9_digest yX9_digest := rfl
theorem qw_35 : qw 35 = Cond.code yX9_digest cX9_digest 4 (some .long) := rfl
theorem qw_36 : qw 36 = Cond.constantLong RX9 316 (17) := rfl
theorem qw_37 : qw 37 = Cond.constantLong RX9 318 (31) := rfl
theorem qw_38 : qw 38 = Cond.methodLink RX9 320 yX9_count := rfl
theorem qw_39 : qw 39 = Cond.methodLink RX9 322 yX9_fault := rfl
theorem qw_40 : qw 40 = Cond.methodLink RX9 325 yX9_digestCells := rfl
theorem qw_41 : qw 41 = Cond.instanceMethod yX9_digestCells := rfl
theorem qw_42 : qw 42 = Cond.selects RX9 yX9_digestCells yX9_digestCells := rfl
theorem qw_43 : qw 43 = Cond.code yX9_digestCells cX9_digestCells 6 (some .long) := rfl
theorem qw_44 : qw 44 = Cond.methodLink RX9 367 yX9_cell := rfl
theorem qw_45 : qw 45 = Cond.methodLink RX9 370 yX9_seen := rfl
theorem qw_46 : qw 46 = Cond.methodLink RX9 329 yX9_beat := rfl
theorem qw_47 : qw 47 = Cond.methodLink RX9 332 yX9_digestThief := rfl
theorem qw_48 : qw 48 = Cond.instanceMethod yX9_digestThief := rfl
theorem qw_49 : qw 49 = Cond.selects RX9 yX9_digestThief yX9_digestThief := rfl
theorem qw_50 : qw 50 = Cond.code yX9_digestThief cX9_digestThief 6 (some .long) := rfl
theorem qw_51 : qw 51 = Cond.methodLink RX9 373 yX9_thief := rfl
theorem qw_52 : qw 52 = Cond.methodLink RX9 376 yX9_takes := rfl
theorem qw_53 : qw 53 = Cond.methodLink RX9 379 yX9_meant := rfl
theorem qw_54 : qw 54 = Cond.methodLink RX9 382 yX9_fogged := rfl
theorem qw_55 : qw 55 = Cond.methodLink RX9 307 yX5_hasItems := rfl
theorem qw_56 : qw 56 = Cond.methodLink RL 147 yX10_copy := rfl
theorem qw_57 : qw 57 = Cond.instanceMethod yX10_copy := rfl
theorem qw_58 : qw 58 = Cond.selects RX10 yX10_copy yX10_copy := rfl
theorem qw_59 : qw 59 = Cond.code yX10_copy cX10_copy 7 (some .int) := rfl
theorem qw_60 : qw 60 = Cond.methodLink RL 148 yX9_write := rfl
theorem qw_61 : qw 61 = Cond.instanceMethod yX9_write := rfl
theorem qw_62 : qw 62 = Cond.selects RX9 yX9_write yX9_write := rfl
theorem qw_63 : qw 63 = Cond.code yX9_write cX9_write 4 (some .int) := rfl
theorem qw_64 : qw 64 = Cond.methodLink RL 151 yX10_write := rfl
theorem qw_65 : qw 65 = Cond.instanceMethod yX10_write := rfl
theorem qw_66 : qw 66 = Cond.selects RX10 yX10_write yX10_write := rfl
theorem qw_67 : qw 67 = Cond.code yX10_write cX10_write 3 (some .int) := rfl
theorem qw_68 : qw 68 = Cond.methodLink RL 152 yX9_count := rfl
theorem qw_69 : qw 69 = Cond.instanceMethod yX9_count := rfl
theorem qw_70 : qw 70 = Cond.selects RX9 yX9_count yX9_count := rfl
theorem qw_71 : qw 71 = Cond.code yX9_count cX9_count 2 (some .int) := rfl
theorem qw_72 : qw 72 = Cond.methodLink RL 155 yX10_count := rfl
theorem qw_73 : qw 73 = Cond.instanceMethod yX10_count := rfl
theorem qw_74 : qw 74 = Cond.selects RX10 yX10_count yX10_count := rfl
theorem qw_75 : qw 75 = Cond.code yX10_count cX10_count 2 (some .int) := rfl
theorem qw_76 : qw 76 = Cond.methodLink RX10 294 yX10_sumOf := rfl
theorem qw_77 : qw 77 = Cond.instanceMethod yX10_sumOf := rfl
theorem qw_78 : qw 78 = Cond.selects RX10 yX10_sumOf yX10_sumOf := rfl
theorem qw_79 : qw 79 = Cond.methodLink RX10 289 yX10_keep := rfl
theorem qw_80 : qw 80 = Cond.instanceMethod yX10_keep := rfl
theorem qw_81 : qw 81 = Cond.selects RX10 yX10_keep yX10_keep := rfl
theorem qw_82 : qw 82 = Cond.code yX10_keep cX10_keep 4 none := rfl
theorem qw_83 : qw 83 = Cond.methodLink RL 139 yX9_get := rfl
theorem qw_84 : qw 84 = Cond.instanceMethod yX9_get := rfl
theorem qw_85 : qw 85 = Cond.selects RX9 yX9_get yX9_get := rfl
theorem qw_86 : qw 86 = Cond.code yX9_get cX9_get 5 (some .int) := rfl
theorem qw_87 : qw 87 = Cond.constant RX9 300 (-2147483648) := rfl
theorem qw_88 : qw 88 = Cond.fieldLink RX9 301 "CatBeat$Sheet" "items" "[I" := rfl
theorem qw_89 : qw 89 = Cond.methodLink RL 142 yX10_get := rfl
theorem qw_90 : qw 90 = Cond.instanceMethod yX10_get := rfl
theorem qw_91 : qw 91 = Cond.selects RX10 yX10_get yX10_get := rfl
theorem qw_92 : qw 92 = Cond.code yX10_get cX10_get 5 (some .int) := rfl
theorem qw_93 : qw 93 = Cond.constant RX10 293 (-2147483648) := rfl
theorem qw_94 : qw 94 = Cond.methodLink RL 143 yX9_copy := rfl
theorem qw_95 : qw 95 = Cond.instanceMethod yX9_copy := rfl
theorem qw_96 : qw 96 = Cond.selects RX9 yX9_copy yX9_copy := rfl
theorem qw_97 : qw 97 = Cond.code yX9_copy cX9_copy 8 (some .int) := rfl
theorem qw_98 : qw 98 = Cond.fieldLink RX9 304 "CatBeat$Sheet" "form" "I" := rfl
theorem qw_99 : qw 99 = Cond.methodLink RX9 310 arraycopyName := rfl
theorem qw_100 : qw 100 = Cond.native arraycopyName := rfl
theorem qw_101 : qw 101 = Cond.static arraycopyName := rfl
theorem qw_102 : qw 102 = Cond.initialized "java/lang/System" := rfl
theorem qw_103 : qw 103 = Cond.methodLink RL 134 yX9_put := rfl
theorem qw_104 : qw 104 = Cond.instanceMethod yX9_put := rfl
theorem qw_105 : qw 105 = Cond.selects RX9 yX9_put yX9_put := rfl
theorem qw_106 : qw 106 = Cond.code yX9_put cX9_put 6 (some .int) := rfl
theorem qw_107 : qw 107 = Cond.methodLink RX9 294 yX5_findingOf := rfl
theorem qw_108 : qw 108 = Cond.instanceMethod yX5_findingOf := rfl
theorem qw_109 : qw 109 = Cond.selects RX5 yX5_findingOf yX5_findingOf := rfl
theorem qw_110 : qw 110 = Cond.code yX5_findingOf cX5_findingOf 3 (some .int) := rfl
theorem qw_111 : qw 111 = Cond.methodLink RX5 38 yX5_hasItems := rfl
theorem qw_112 : qw 112 = Cond.instanceMethod yX5_hasItems := rfl
theorem qw_113 : qw 113 = Cond.selects RX5 yX5_hasItems yX5_hasItems := rfl
theorem qw_114 : qw 114 = Cond.code yX5_hasItems cX5_hasItems 3 (some .boolean) := rfl
theorem qw_115 : qw 115 = Cond.methodLink RX9 297 yX5_store := rfl
theorem qw_116 : qw 116 = Cond.instanceMethod yX5_store := rfl
theorem qw_117 : qw 117 = Cond.selects RX5 yX5_store yX5_store := rfl
theorem qw_118 : qw 118 = Cond.code yX5_store cX5_store 3 none := rfl
theorem qw_119 : qw 119 = Cond.methodLink RL 138 yX10_put := rfl
theorem qw_120 : qw 120 = Cond.instanceMethod yX10_put := rfl
theorem qw_121 : qw 121 = Cond.selects RX10 yX10_put yX10_put := rfl
theorem qw_122 : qw 122 = Cond.code yX10_put cX10_put 6 (some .int) := rfl
theorem qw_123 : qw 123 = Cond.methodLink RX10 286 yX10_lacks := rfl
theorem qw_124 : qw 124 = Cond.instanceMethod yX10_lacks := rfl
theorem qw_125 : qw 125 = Cond.selects RX10 yX10_lacks yX10_lacks := rfl
theorem qw_126 : qw 126 = Cond.code yX10_lacks cX10_lacks 4 (some .int) := rfl
theorem qw_127 : qw 127 = Cond.selects RX9 yX9_sheet yX9_sheet := rfl
theorem qw_128 : qw 128 = Cond.code yX9_sheet cX9_sheet 4 (some .int) := rfl
theorem qw_129 : qw 129 = Cond.methodLink RX9 285 yX5_isForm := rfl
theorem qw_130 : qw 130 = Cond.static yX5_isForm := rfl
theorem qw_131 : qw 131 = Cond.code yX5_isForm cX5_isForm 1 (some .boolean) := rfl
theorem qw_132 : qw 132 = Cond.methodLink RX9 288 yX5_renew := rfl
theorem qw_133 : qw 133 = Cond.instanceMethod yX5_renew := rfl
theorem qw_134 : qw 134 = Cond.selects RX5 yX5_renew yX5_renew := rfl
theorem qw_135 : qw 135 = Cond.code yX5_renew cX5_renew 3 none := rfl
theorem qw_136 : qw 136 = Cond.methodLink RX5 26 Lib.Math.min.name := rfl
theorem qw_137 : qw 137 = Cond.methodLink RX5 32 yJ7_fill_53178 := rfl
theorem qw_138 : qw 138 = Cond.methodLink RL 129 yX10_sheet := rfl
theorem qw_139 : qw 139 = Cond.instanceMethod yX10_sheet := rfl
theorem qw_140 : qw 140 = Cond.selects RX10 yX10_sheet yX10_sheet := rfl
theorem qw_141 : qw 141 = Cond.code yX10_sheet cX10_sheet 5 (some .int) := rfl
theorem qw_142 : qw 142 = Cond.methodLink RL 130 yX9_lose := rfl
theorem qw_143 : qw 143 = Cond.instanceMethod yX9_lose := rfl
theorem qw_144 : qw 144 = Cond.selects RX9 yX9_lose yX9_lose := rfl
theorem qw_145 : qw 145 = Cond.code yX9_lose cX9_lose 2 (some .int) := rfl
theorem qw_146 : qw 146 = Cond.fieldLink RX9 291 "CatBeat$Sheet" "size" "I" := rfl
theorem qw_147 : qw 147 = Cond.methodLink RL 133 yX10_lose := rfl
theorem qw_148 : qw 148 = Cond.instanceMethod yX10_lose := rfl
theorem qw_149 : qw 149 = Cond.selects RX10 yX10_lose yX10_lose := rfl
theorem qw_150 : qw 150 = Cond.code yX10_lose cX10_lose 2 (some .int) := rfl
theorem qw_151 : qw 151 = Cond.methodLink RX10 274 yX10_no := rfl
theorem qw_152 : qw 152 = Cond.static yX10_no := rfl
theorem qw_153 : qw 153 = Cond.code yX10_no cX10_no 1 (some .long) := rfl
theorem qw_154 : qw 154 = Cond.constantLong RX10 78 (-9223372036854775808) := rfl
theorem qw_155 : qw 155 = Cond.methodLink RL 121 yX9_nights := rfl
theorem qw_156 : qw 156 = Cond.instanceMethod yX9_nights := rfl
theorem qw_157 : qw 157 = Cond.selects RX9 yX9_nights yX9_nights := rfl
theorem qw_158 : qw 158 = Cond.code yX9_nights cX9_nights 4 (some .int) := rfl
theorem qw_159 : qw 159 = Cond.methodLink RX9 281 yX4_drawLots := rfl
theorem qw_160 : qw 160 = Cond.instanceMethod yX4_drawLots := rfl
theorem qw_161 : qw 161 = Cond.selects RX4 yX4_drawLots yX4_drawLots := rfl
theorem qw_162 : qw 162 = Cond.code yX4_drawLots cX4_drawLots 5 none := rfl
theorem qw_163 : qw 163 = Cond.constant RX4 35 (1103515245) := rfl
theorem qw_164 : qw 164 = Cond.methodLink RL 125 yX10_nights := rfl
theorem qw_165 : qw 165 = Cond.instanceMethod yX10_nights := rfl
theorem qw_166 : qw 166 = Cond.selects RX10 yX10_nights yX10_nights := rfl
theorem qw_167 : qw 167 = Cond.code yX10_nights cX10_nights 4 (some .int) := rfl
theorem qw_168 : qw 168 = Cond.methodLink RX10 279 yX10_nightsOf := rfl
theorem qw_169 : qw 169 = Cond.instanceMethod yX10_nightsOf := rfl
theorem qw_170 : qw 170 = Cond.selects RX10 yX10_nightsOf yX10_nightsOf := rfl
theorem qw_171 : qw 171 = Cond.code yX10_nightsOf cX10_nightsOf 6 (some .int) := rfl
theorem qw_172 : qw 172 = Cond.constant RX10 278 (1103515245) := rfl
theorem qw_173 : qw 173 = Cond.methodLink RL 126 yX9_sheet := rfl
theorem qw_174 : qw 174 = Cond.instanceMethod yX9_sheet := rfl
theorem qw_175 : qw 175 = Cond.methodLink RX9 426 yX8_isInView := rfl
theorem qw_176 : qw 176 = Cond.instanceMethod yX8_isInView := rfl
theorem qw_177 : qw 177 = Cond.selects RX8 yX8_isInView yX8_isInView := rfl
theorem qw_178 : qw 178 = Cond.code yX8_isInView cX8_isInView 4 (some .boolean) := rfl
theorem qw_179 : qw 179 = Cond.methodLink RX8 56 yX8_viewFrom := rfl
theorem qw_180 : qw 180 = Cond.methodLink RX9 432 yX3_goOn := rfl
theorem qw_181 : qw 181 = Cond.instanceMethod yX3_goOn := rfl
theorem qw_182 : qw 182 = Cond.selects RX3 yX3_goOn yX3_goOn := rfl
theorem qw_183 : qw 183 = Cond.code yX3_goOn cX3_goOn 8 none := rfl
theorem qw_184 : qw 184 = Cond.methodLink RX9 436 yX3_taken := rfl
theorem qw_185 : qw 185 = Cond.instanceMethod yX3_taken := rfl
theorem qw_186 : qw 186 = Cond.selects RX3 yX3_taken yX3_taken := rfl
theorem qw_187 : qw 187 = Cond.code yX3_taken cX3_taken 1 (some .long) := rfl
theorem qw_188 : qw 188 = Cond.methodLink RL 120 yX10_fogged := rfl
theorem qw_189 : qw 189 = Cond.instanceMethod yX10_fogged := rfl
theorem qw_190 : qw 190 = Cond.selects RX10 yX10_fogged yX10_fogged := rfl
theorem qw_191 : qw 191 = Cond.code yX10_fogged cX10_fogged 5 (some .long) := rfl
theorem qw_192 : qw 192 = Cond.methodLink RX10 270 yX10_foggedOf := rfl
theorem qw_193 : qw 193 = Cond.instanceMethod yX10_foggedOf := rfl
theorem qw_194 : qw 194 = Cond.selects RX10 yX10_foggedOf yX10_foggedOf := rfl
theorem qw_195 : qw 195 = Cond.code yX10_foggedOf cX10_foggedOf 11 (some .long) := rfl
theorem qw_196 : qw 196 = Cond.methodLink RX10 266 yX10_lowest := rfl
theorem qw_197 : qw 197 = Cond.static yX10_lowest := rfl
theorem qw_198 : qw 198 = Cond.code yX10_lowest cX10_lowest 11 (some .long) := rfl
theorem qw_199 : qw 199 = Cond.methodLink RX10 263 yX10_askNow := rfl
theorem qw_200 : qw 200 = Cond.instanceMethod yX10_askNow := rfl
theorem qw_201 : qw 201 = Cond.selects RX10 yX10_askNow yX10_askNow := rfl
theorem qw_202 : qw 202 = Cond.code yX10_askNow cX10_askNow 8 (some .int) := rfl
theorem qw_203 : qw 203 = Cond.methodLink RL 116 yX9_fogged := rfl
theorem qw_204 : qw 204 = Cond.instanceMethod yX9_fogged := rfl
theorem qw_205 : qw 205 = Cond.selects RX9 yX9_fogged yX9_fogged := rfl
theorem qw_206 : qw 206 = Cond.code yX9_fogged cX9_fogged 11 (some .long) := rfl
theorem qw_207 : qw 207 = Cond.constantLong RX9 273 (-9223372036854775806) := rfl
theorem qw_208 : qw 208 = Cond.constantLong RX9 279 (2) := rfl
theorem qw_209 : qw 209 = Cond.methodLink RX9 275 yX9_waysToTake := rfl
theorem qw_210 : qw 210 = Cond.instanceMethod yX9_waysToTake := rfl
theorem qw_211 : qw 211 = Cond.selects RX9 yX9_waysToTake yX9_waysToTake := rfl
theorem qw_212 : qw 212 = Cond.code yX9_waysToTake cX9_waysToTake 9 (some .long) := rfl
theorem qw_213 : qw 213 = Cond.constantLong RX9 430 (16) := rfl
theorem qw_214 : qw 214 = Cond.methodLink RX9 423 yX3_startFor := rfl
theorem qw_215 : qw 215 = Cond.instanceMethod yX3_startFor := rfl
theorem qw_216 : qw 216 = Cond.selects RX3 yX3_startFor yX3_startFor := rfl
theorem qw_217 : qw 217 = Cond.code yX3_startFor cX3_startFor 2 none := rfl
theorem qw_218 : qw 218 = Cond.methodLink RX3 19 Lib.Math.min.name := rfl
theorem qw_219 : qw 219 = Cond.methodLink RX3 25 Lib.Math.max.name := rfl
theorem qw_220 : qw 220 = Cond.methodLink RX3 28 yJ7_fill_d0a16 := rfl
theorem qw_221 : qw 221 = Cond.static yJ7_fill_d0a16 := rfl
theorem qw_222 : qw 222 = Cond.code yJ7_fill_d0a16 cJ7_fill_d0a16 5 none := rfl
theorem qw_223 : qw 223 = Cond.instanceMethod yX10_meantOf := rfl
theorem qw_224 : qw 224 = Cond.selects RX10 yX10_meantOf yX10_meantOf := rfl
theorem qw_225 : qw 225 = Cond.code yX10_meantOf cX10_meantOf 8 (some .int) := rfl
theorem qw_226 : qw 226 = Cond.methodLink RL 112 yX9_ask := rfl
theorem qw_227 : qw 227 = Cond.instanceMethod yX9_ask := rfl
theorem qw_228 : qw 228 = Cond.selects RX9 yX9_ask yX9_ask := rfl
theorem qw_229 : qw 229 = Cond.code yX9_ask cX9_ask 5 (some .int) := rfl
theorem qw_230 : qw 230 = Cond.methodLink RX9 260 yJ7_fill_53178 := rfl
theorem qw_231 : qw 231 = Cond.static yJ7_fill_53178 := rfl
theorem qw_232 : qw 232 = Cond.initialized RJ7 := rfl
theorem qw_233 : qw 233 = Cond.code yJ7_fill_53178 cJ7_fill_53178 4 none := rfl
theorem qw_234 : qw 234 = Cond.methodLink RX9 266 yX9_countTakings := rfl
theorem qw_235 : qw 235 = Cond.instanceMethod yX9_countTakings := rfl
theorem qw_236 : qw 236 = Cond.selects RX9 yX9_countTakings yX9_countTakings := rfl
theorem qw_237 : qw 237 = Cond.code yX9_countTakings cX9_countTakings 4 none := rfl
theorem qw_238 : qw 238 = Cond.methodLink RX9 270 yX9_mostTellingShop := rfl
theorem qw_239 : qw 239 = Cond.instanceMethod yX9_mostTellingShop := rfl
theorem qw_240 : qw 240 = Cond.selects RX9 yX9_mostTellingShop yX9_mostTellingShop := rfl
theorem qw_241 : qw 241 = Cond.code yX9_mostTellingShop cX9_mostTellingShop 6 (some .int) := rfl
theorem qw_242 : qw 242 = Cond.methodLink RX9 420 Lib.Math.max.name := rfl
theorem qw_243 : qw 243 = Cond.methodLink RL 115 yX10_ask := rfl
theorem qw_244 : qw 244 = Cond.instanceMethod yX10_ask := rfl
theorem qw_245 : qw 245 = Cond.selects RX10 yX10_ask yX10_ask := rfl
theorem qw_246 : qw 246 = Cond.code yX10_ask cX10_ask 1 (some .int) := rfl
theorem qw_247 : qw 247 = Cond.selects RX10 yX10_isMissed yX10_isMissed := rfl
theorem qw_248 : qw 248 = Cond.code yX10_isMissed cX10_isMissed 3 (some .boolean) := rfl
theorem qw_249 : qw 249 = Cond.methodLink RL 108 yX9_meant := rfl
theorem qw_250 : qw 250 = Cond.instanceMethod yX9_meant := rfl
theorem qw_251 : qw 251 = Cond.selects RX9 yX9_meant yX9_meant := rfl
theorem qw_252 : qw 252 = Cond.code yX9_meant cX9_meant 5 (some .int) := rfl
theorem qw_253 : qw 253 = Cond.methodLink RX9 252 yX9_cellsMeant := rfl
theorem qw_254 : qw 254 = Cond.instanceMethod yX9_cellsMeant := rfl
theorem qw_255 : qw 255 = Cond.selects RX9 yX9_cellsMeant yX9_cellsMeant := rfl
theorem qw_256 : qw 256 = Cond.code yX9_cellsMeant cX9_cellsMeant 8 (some .long) := rfl
theorem qw_257 : qw 257 = Cond.methodLink RX9 414 yX8_isShop := rfl
theorem qw_258 : qw 258 = Cond.methodLink RX9 417 yX2_endOfUnseen := rfl
theorem qw_259 : qw 259 = Cond.methodLink RX9 255 yJ13_bitCount_95d88 := rfl
theorem qw_260 : qw 260 = Cond.static yJ13_bitCount_95d88 := rfl
theorem qw_261 : qw 261 = Cond.initialized RJ13 := rfl
theorem qw_262 : qw 262 = Cond.code yJ13_bitCount_95d88 cJ13_bitCount_95d88 2 (some .int) := rfl
theorem qw_263 : qw 263 = Cond.constantLong RJ13 314 (6148914691236517205) := rfl
theorem qw_264 : qw 264 = Cond.constantLong RJ13 316 (3689348814741910323) := rfl
theorem qw_265 : qw 265 = Cond.constantLong RJ13 318 (1085102592571150095) := rfl
theorem qw_266 : qw 266 = Cond.methodLink RL 111 yX10_meant := rfl
theorem qw_267 : qw 267 = Cond.instanceMethod yX10_meant := rfl
theorem qw_268 : qw 268 = Cond.selects RX10 yX10_meant yX10_meant := rfl
theorem qw_269 : qw 269 = Cond.code yX10_meant cX10_meant 3 (some .int) := rfl
theorem qw_270 : qw 270 = Cond.methodLink RX10 260 yX10_meantOf := rfl
theorem qw_271 : qw 271 = Cond.fieldLink RX10 283 "CatBeatModel" "finding" "I" := rfl
theorem qw_272 : qw 272 = Cond.methodLink RX10 250 yX10_missed := rfl
theorem qw_273 : qw 273 = Cond.methodLink RL 104 yX9_omitted := rfl
theorem qw_274 : qw 274 = Cond.instanceMethod yX9_omitted := rfl
theorem qw_275 : qw 275 = Cond.selects RX9 yX9_omitted yX9_omitted := rfl
theorem qw_276 : qw 276 = Cond.code yX9_omitted cX9_omitted 3 (some .int) := rfl
theorem qw_277 : qw 277 = Cond.methodLink RX9 244 yX9_takenFromWithout := rfl
theorem qw_278 : qw 278 = Cond.instanceMethod yX9_takenFromWithout := rfl
theorem qw_279 : qw 279 = Cond.selects RX9 yX9_takenFromWithout yX9_takenFromWithout := rfl
theorem qw_280 : qw 280 = Cond.code yX9_takenFromWithout cX9_takenFromWithout 2 (some .long) := rfl
theorem qw_281 : qw 281 = Cond.methodLink RX9 248 yX1_agreesWith := rfl
theorem qw_282 : qw 282 = Cond.instanceMethod yX1_agreesWith := rfl
theorem qw_283 : qw 283 = Cond.selects RX1 yX1_agreesWith yX1_agreesWith := rfl
theorem qw_284 : qw 284 = Cond.code yX1_agreesWith cX1_agreesWith 4 (some .boolean) := rfl
theorem qw_285 : qw 285 = Cond.methodLink RL 107 yX10_omitted := rfl
theorem qw_286 : qw 286 = Cond.instanceMethod yX10_omitted := rfl
theorem qw_287 : qw 287 = Cond.selects RX10 yX10_omitted yX10_omitted := rfl
theorem qw_288 : qw 288 = Cond.code yX10_omitted cX10_omitted 1 (some .int) := rfl
theorem qw_289 : qw 289 = Cond.methodLink RX10 257 yX10_omittedNow := rfl
theorem qw_290 : qw 290 = Cond.instanceMethod yX10_omittedNow := rfl
theorem qw_291 : qw 291 = Cond.selects RX10 yX10_omittedNow yX10_omittedNow := rfl
theorem qw_292 : qw 292 = Cond.code yX10_omittedNow cX10_omittedNow 3 (some .int) := rfl
theorem qw_293 : qw 293 = Cond.methodLink RX10 253 yX10_isMissed := rfl
theorem qw_294 : qw 294 = Cond.instanceMethod yX10_isMissed := rfl
theorem qw_295 : qw 295 = Cond.code yX9_isSheet cX9_isSheet 2 (some .boolean) := rfl
theorem qw_296 : qw 296 = Cond.methodLink RX9 237 yX9_found := rfl
theorem qw_297 : qw 297 = Cond.instanceMethod yX9_found := rfl
theorem qw_298 : qw 298 = Cond.selects RX9 yX9_found yX9_found := rfl
theorem qw_299 : qw 299 = Cond.code yX9_found cX9_found 2 (some .int) := rfl
theorem qw_300 : qw 300 = Cond.methodLink RX9 240 yX1_addFrom := rfl
theorem qw_301 : qw 301 = Cond.instanceMethod yX1_addFrom := rfl
theorem qw_302 : qw 302 = Cond.selects RX1 yX1_addFrom yX1_addFrom := rfl
theorem qw_303 : qw 303 = Cond.code yX1_addFrom cX1_addFrom 6 (some .int) := rfl
theorem qw_304 : qw 304 = Cond.fieldLink RX1 26 "CatBeat$Sheet" "size" "I" := rfl
theorem qw_305 : qw 305 = Cond.fieldLink RX1 31 "CatBeat$Sheet" "items" "[I" := rfl
theorem qw_306 : qw 306 = Cond.methodLink RX1 34 yX1_mayBe := rfl
theorem qw_307 : qw 307 = Cond.methodLink RX1 38 yX1_add := rfl
theorem qw_308 : qw 308 = Cond.methodLink RL 103 yX10_read := rfl
theorem qw_309 : qw 309 = Cond.instanceMethod yX10_read := rfl
theorem qw_310 : qw 310 = Cond.selects RX10 yX10_read yX10_read := rfl
theorem qw_311 : qw 311 = Cond.code yX10_read cX10_read 3 (some .int) := rfl
theorem qw_312 : qw 312 = Cond.methodLink RX10 244 yX10_isSheet := rfl
theorem qw_313 : qw 313 = Cond.static yX10_isSheet := rfl
theorem qw_314 : qw 314 = Cond.code yX10_isSheet cX10_isSheet 1 (some .boolean) := rfl
theorem qw_315 : qw 315 = Cond.methodLink RX10 247 yX10_meets := rfl
theorem qw_316 : qw 316 = Cond.instanceMethod yX10_meets := rfl
theorem qw_317 : qw 317 = Cond.selects RX10 yX10_meets yX10_meets := rfl
theorem qw_318 : qw 318 = Cond.code yX10_meets cX10_meets 2 (some .int) := rfl
theorem qw_319 : qw 319 = Cond.instanceMethod yX1_add := rfl
theorem qw_320 : qw 320 = Cond.selects RX1 yX1_add yX1_add := rfl
theorem qw_321 : qw 321 = Cond.code yX1_add cX1_add 3 (some .boolean) := rfl
theorem qw_322 : qw 322 = Cond.methodLink RL 95 yX10_missed := rfl
theorem qw_323 : qw 323 = Cond.instanceMethod yX10_missed := rfl
theorem qw_324 : qw 324 = Cond.selects RX10 yX10_missed yX10_missed := rfl
theorem qw_325 : qw 325 = Cond.code yX10_missed cX10_missed 3 (some .int) := rfl
theorem qw_326 : qw 326 = Cond.fieldLink RX10 241 "CatBeatModel" "misses" "I" := rfl
theorem qw_327 : qw 327 = Cond.methodLink RL 96 yX9_forget := rfl
theorem qw_328 : qw 328 = Cond.instanceMethod yX9_forget := rfl
theorem qw_329 : qw 329 = Cond.selects RX9 yX9_forget yX9_forget := rfl
theorem qw_330 : qw 330 = Cond.code yX9_forget cX9_forget 2 (some .int) := rfl
theorem qw_331 : qw 331 = Cond.methodLink RL 99 yX10_forget := rfl
theorem qw_332 : qw 332 = Cond.instanceMethod yX10_forget := rfl
theorem qw_333 : qw 333 = Cond.selects RX10 yX10_forget yX10_forget := rfl
theorem qw_334 : qw 334 = Cond.code yX10_forget cX10_forget 2 (some .int) := rfl
theorem qw_335 : qw 335 = Cond.methodLink RL 100 yX9_read := rfl
theorem qw_336 : qw 336 = Cond.instanceMethod yX9_read := rfl
theorem qw_337 : qw 337 = Cond.selects RX9 yX9_read yX9_read := rfl
theorem qw_338 : qw 338 = Cond.code yX9_read cX9_read 2 (some .int) := rfl
theorem qw_339 : qw 339 = Cond.fieldLink RX9 235 "CatBeat$Sheet" "lost" "Z" := rfl
theorem qw_340 : qw 340 = Cond.methodLink RX9 232 yX9_isSheet := rfl
theorem qw_341 : qw 341 = Cond.instanceMethod yX9_isSheet := rfl
theorem qw_342 : qw 342 = Cond.selects RX9 yX9_isSheet yX9_isSheet := rfl
theorem qw_343 : qw 343 = Cond.instanceMethod yX10_beginOf := rfl
theorem qw_344 : qw 344 = Cond.selects RX10 yX10_beginOf yX10_beginOf := rfl
theorem qw_345 : qw 345 = Cond.code yX10_beginOf cX10_beginOf 8 (some .int) := rfl
theorem qw_346 : qw 346 = Cond.methodLink RL 88 yX9_recruit := rfl
theorem qw_347 : qw 347 = Cond.instanceMethod yX9_recruit := rfl
theorem qw_348 : qw 348 = Cond.selects RX9 yX9_recruit yX9_recruit := rfl
theorem qw_349 : qw 349 = Cond.code yX9_recruit cX9_recruit 6 (some .int) := rfl
theorem qw_350 : qw 350 = Cond.methodLink RL 91 yX10_recruit := rfl
theorem qw_351 : qw 351 = Cond.instanceMethod yX10_recruit := rfl
theorem qw_352 : qw 352 = Cond.selects RX10 yX10_recruit yX10_recruit := rfl
theorem qw_353 : qw 353 = Cond.code yX10_recruit cX10_recruit 2 (some .int) := rfl
theorem qw_354 : qw 354 = Cond.methodLink RX10 238 yX10_recruitOf := rfl
theorem qw_355 : qw 355 = Cond.instanceMethod yX10_recruitOf := rfl
theorem qw_356 : qw 356 = Cond.selects RX10 yX10_recruitOf yX10_recruitOf := rfl
theorem qw_357 : qw 357 = Cond.code yX10_recruitOf cX10_recruitOf 8 (some .int) := rfl
theorem qw_358 : qw 358 = Cond.methodLink RL 92 yX9_missed := rfl
theorem qw_359 : qw 359 = Cond.instanceMethod yX9_missed := rfl
theorem qw_360 : qw 360 = Cond.selects RX9 yX9_missed yX9_missed := rfl
theorem qw_361 : qw 361 = Cond.code yX9_missed cX9_missed 3 (some .int) := rfl
theorem qw_362 : qw 362 = Cond.fieldLink RX9 231 "CatBeat$Missed" "count" "I" := rfl
theorem qw_363 : qw 363 = Cond.methodLink RX9 224 yX1_mayBe := rfl
theorem qw_364 : qw 364 = Cond.static yX1_mayBe := rfl
theorem qw_365 : qw 365 = Cond.code yX1_mayBe cX1_mayBe 2 (some .boolean) := rfl
theorem qw_366 : qw 366 = Cond.methodLink RX9 228 yX1_add := rfl
theorem qw_367 : qw 367 = Cond.static yX9_placeOfBit := rfl
theorem qw_368 : qw 368 = Cond.code yX9_placeOfBit cX9_placeOfBit 5 (some .int) := rfl
theorem qw_369 : qw 369 = Cond.methodLink RL 83 yX10_trim := rfl
theorem qw_370 : qw 370 = Cond.instanceMethod yX10_trim := rfl
theorem qw_371 : qw 371 = Cond.selects RX10 yX10_trim yX10_trim := rfl
theorem qw_372 : qw 372 = Cond.code yX10_trim cX10_trim 2 (some .int) := rfl
theorem qw_373 : qw 373 = Cond.methodLink RX10 229 yX10_trimBy := rfl
theorem qw_374 : qw 374 = Cond.instanceMethod yX10_trimBy := rfl
theorem qw_375 : qw 375 = Cond.selects RX10 yX10_trimBy yX10_trimBy := rfl
theorem qw_376 : qw 376 = Cond.code yX10_trimBy cX10_trimBy 4 (some .int) := rfl
theorem qw_377 : qw 377 = Cond.methodLink RX10 232 yX10_ofRow := rfl
theorem qw_378 : qw 378 = Cond.instanceMethod yX10_ofRow := rfl
theorem qw_379 : qw 379 = Cond.selects RX10 yX10_ofRow yX10_ofRow := rfl
theorem qw_380 : qw 380 = Cond.code yX10_ofRow cX10_ofRow 3 (some .int) := rfl
theorem qw_381 : qw 381 = Cond.methodLink RL 84 yX9_begin := rfl
theorem qw_382 : qw 382 = Cond.instanceMethod yX9_begin := rfl
theorem qw_383 : qw 383 = Cond.selects RX9 yX9_begin yX9_begin := rfl
theorem qw_384 : qw 384 = Cond.code yX9_begin cX9_begin 6 (some .int) := rfl
theorem qw_385 : qw 385 = Cond.methodLink RX9 210 yX0_holds := rfl
theorem qw_386 : qw 386 = Cond.methodLink RL 87 yX10_begin := rfl
theorem qw_387 : qw 387 = Cond.instanceMethod yX10_begin := rfl
theorem qw_388 : qw 388 = Cond.selects RX10 yX10_begin yX10_begin := rfl
theorem qw_389 : qw 389 = Cond.code yX10_begin cX10_begin 2 (some .int) := rfl
theorem qw_390 : qw 390 = Cond.methodLink RX10 235 yX10_beginOf := rfl
theorem qw_391 : qw 391 = Cond.methodLink RX10 223 yX10_lostWithout := rfl
theorem qw_392 : qw 392 = Cond.instanceMethod yX10_lostWithout := rfl
theorem qw_393 : qw 393 = Cond.selects RX10 yX10_lostWithout yX10_lostWithout := rfl
theorem qw_394 : qw 394 = Cond.code yX10_lostWithout cX10_lostWithout 3 (some .int) := rfl
theorem qw_395 : qw 395 = Cond.methodLink RX10 220 yX10_without := rfl
theorem qw_396 : qw 396 = Cond.instanceMethod yX10_without := rfl
theorem qw_397 : qw 397 = Cond.selects RX10 yX10_without yX10_without := rfl
theorem qw_398 : qw 398 = Cond.code yX10_without cX10_without 4 none := rfl
theorem qw_399 : qw 399 = Cond.methodLink RL 80 yX9_trim := rfl
theorem qw_400 : qw 400 = Cond.instanceMethod yX9_trim := rfl
theorem qw_401 : qw 401 = Cond.selects RX9 yX9_trim yX9_trim := rfl
theorem qw_402 : qw 402 = Cond.code yX9_trim cX9_trim 2 (some .int) := rfl
theorem qw_403 : qw 403 = Cond.methodLink RX9 199 yX9_fewestLeftOut := rfl
theorem qw_404 : qw 404 = Cond.instanceMethod yX9_fewestLeftOut := rfl
theorem qw_405 : qw 405 = Cond.selects RX9 yX9_fewestLeftOut yX9_fewestLeftOut := rfl
theorem qw_406 : qw 406 = Cond.code yX9_fewestLeftOut cX9_fewestLeftOut 4 (some .int) := rfl
theorem qw_407 : qw 407 = Cond.methodLink RX9 202 yJ6_bitCount_0f7a4 := rfl
theorem qw_408 : qw 408 = Cond.static yJ6_bitCount_0f7a4 := rfl
theorem qw_409 : qw 409 = Cond.initialized RJ6 := rfl
theorem qw_410 : qw 410 = Cond.code yJ6_bitCount_0f7a4 cJ6_bitCount_0f7a4 1 (some .int) := rfl
theorem qw_411 : qw 411 = Cond.constant RJ6 265 (1431655765) := rfl
theorem qw_412 : qw 412 = Cond.constant RJ6 266 (858993459) := rfl
theorem qw_413 : qw 413 = Cond.constant RJ6 267 (252645135) := rfl
theorem qw_414 : qw 414 = Cond.methodLink RX9 207 yX9_placeOfBit := rfl
theorem qw_415 : qw 415 = Cond.instanceMethod yX10_firstNow := rfl
theorem qw_416 : qw 416 = Cond.selects RX10 yX10_firstNow yX10_firstNow := rfl
theorem qw_417 : qw 417 = Cond.code yX10_firstNow cX10_firstNow 4 (some .int) := rfl
theorem qw_418 : qw 418 = Cond.methodLink RL 76 yX9_spare := rfl
theorem qw_419 : qw 419 = Cond.instanceMethod yX9_spare := rfl
theorem qw_420 : qw 420 = Cond.selects RX9 yX9_spare yX9_spare := rfl
theorem qw_421 : qw 421 = Cond.code yX9_spare cX9_spare 4 (some .int) := rfl
theorem qw_422 : qw 422 = Cond.methodLink RX9 191 yX9_lost := rfl
theorem qw_423 : qw 423 = Cond.methodLink RX9 195 yX9_lostWithout := rfl
theorem qw_424 : qw 424 = Cond.instanceMethod yX9_lostWithout := rfl
theorem qw_425 : qw 425 = Cond.selects RX9 yX9_lostWithout yX9_lostWithout := rfl
theorem qw_426 : qw 426 = Cond.code yX9_lostWithout cX9_lostWithout 3 (some .int) := rfl
theorem qw_427 : qw 427 = Cond.methodLink RX9 409 yX4_takeAllBut := rfl
theorem qw_428 : qw 428 = Cond.instanceMethod yX4_takeAllBut := rfl
theorem qw_429 : qw 429 = Cond.selects RX4 yX4_takeAllBut yX4_takeAllBut := rfl
theorem qw_430 : qw 430 = Cond.code yX4_takeAllBut cX4_takeAllBut 5 none := rfl
theorem qw_431 : qw 431 = Cond.methodLink RL 79 yX10_spare := rfl
theorem qw_432 : qw 432 = Cond.instanceMethod yX10_spare := rfl
theorem qw_433 : qw 433 = Cond.selects RX10 yX10_spare yX10_spare := rfl
theorem qw_434 : qw 434 = Cond.code yX10_spare cX10_spare 1 (some .int) := rfl
theorem qw_435 : qw 435 = Cond.methodLink RX10 226 yX10_spareNow := rfl
theorem qw_436 : qw 436 = Cond.instanceMethod yX10_spareNow := rfl
theorem qw_437 : qw 437 = Cond.selects RX10 yX10_spareNow yX10_spareNow := rfl
theorem qw_438 : qw 438 = Cond.code yX10_spareNow cX10_spareNow 4 (some .int) := rfl
theorem qw_439 : qw 439 = Cond.instanceMethod yX7_howManyTake := rfl
theorem qw_440 : qw 440 = Cond.selects RX7 yX7_howManyTake yX7_howManyTake := rfl
theorem qw_441 : qw 441 = Cond.code yX7_howManyTake cX7_howManyTake 5 (some .int) := rfl
theorem qw_442 : qw 442 = Cond.methodLink RL 71 yX10_lost := rfl
theorem qw_443 : qw 443 = Cond.instanceMethod yX10_lost := rfl
theorem qw_444 : qw 444 = Cond.selects RX10 yX10_lost yX10_lost := rfl
theorem qw_445 : qw 445 = Cond.code yX10_lost cX10_lost 1 (some .int) := rfl
theorem qw_446 : qw 446 = Cond.methodLink RX10 214 yX10_lostTold := rfl
theorem qw_447 : qw 447 = Cond.instanceMethod yX10_lostTold := rfl
theorem qw_448 : qw 448 = Cond.selects RX10 yX10_lostTold yX10_lostTold := rfl
theorem qw_449 : qw 449 = Cond.code yX10_lostTold cX10_lostTold 1 (some .int) := rfl
theorem qw_450 : qw 450 = Cond.methodLink RX10 211 yX10_lostNow := rfl
theorem qw_451 : qw 451 = Cond.instanceMethod yX10_lostNow := rfl
theorem qw_452 : qw 452 = Cond.selects RX10 yX10_lostNow yX10_lostNow := rfl
theorem qw_453 : qw 453 = Cond.code yX10_lostNow cX10_lostNow 3 (some .int) := rfl
theorem qw_454 : qw 454 = Cond.methodLink RL 72 yX9_first := rfl
theorem qw_455 : qw 455 = Cond.instanceMethod yX9_first := rfl
theorem qw_456 : qw 456 = Cond.selects RX9 yX9_first yX9_first := rfl
theorem qw_457 : qw 457 = Cond.code yX9_first cX9_first 5 (some .int) := rfl
theorem qw_458 : qw 458 = Cond.methodLink RL 75 yX10_first := rfl
theorem qw_459 : qw 459 = Cond.instanceMethod yX10_first := rfl
theorem qw_460 : qw 460 = Cond.selects RX10 yX10_first yX10_first := rfl
theorem qw_461 : qw 461 = Cond.code yX10_first cX10_first 1 (some .int) := rfl
theorem qw_462 : qw 462 = Cond.methodLink RX10 217 yX10_firstNow := rfl
theorem qw_463 : qw 463 = Cond.fieldLink RX9 176 "CatBeat$Ward" "shops" "J" := rfl
theorem qw_464 : qw 464 = Cond.constantLong RX9 184 (-1) := rfl
theorem qw_465 : qw 465 = Cond.methodLink RX9 180 yX7_takenFrom := rfl
theorem qw_466 : qw 466 = Cond.instanceMethod yX7_takenFrom := rfl
theorem qw_467 : qw 467 = Cond.selects RX7 yX7_takenFrom yX7_takenFrom := rfl
theorem qw_468 : qw 468 = Cond.code yX7_takenFrom cX7_takenFrom 7 (some .long) := rfl
theorem qw_469 : qw 469 = Cond.methodLink RX7 54 yX7_takesBehind := rfl
theorem qw_470 : qw 470 = Cond.methodLink RL 66 yX10_safe := rfl
theorem qw_471 : qw 471 = Cond.instanceMethod yX10_safe := rfl
theorem qw_472 : qw 472 = Cond.selects RX10 yX10_safe yX10_safe := rfl
theorem qw_473 : qw 473 = Cond.code yX10_safe cX10_safe 2 (some .int) := rfl
theorem qw_474 : qw 474 = Cond.methodLink RX10 208 yX10_safeOf := rfl
theorem qw_475 : qw 475 = Cond.instanceMethod yX10_safeOf := rfl
theorem qw_476 : qw 476 = Cond.selects RX10 yX10_safeOf yX10_safeOf := rfl
theorem qw_477 : qw 477 = Cond.code yX10_safeOf cX10_safeOf 4 (some .int) := rfl
theorem qw_478 : qw 478 = Cond.methodLink RX10 205 yX10_isTaken := rfl
theorem qw_479 : qw 479 = Cond.instanceMethod yX10_isTaken := rfl
theorem qw_480 : qw 480 = Cond.selects RX10 yX10_isTaken yX10_isTaken := rfl
theorem qw_481 : qw 481 = Cond.code yX10_isTaken cX10_isTaken 4 (some .boolean) := rfl
theorem qw_482 : qw 482 = Cond.methodLink RL 67 yX9_lost := rfl
theorem qw_483 : qw 483 = Cond.instanceMethod yX9_lost := rfl
theorem qw_484 : qw 484 = Cond.selects RX9 yX9_lost yX9_lost := rfl
theorem qw_485 : qw 485 = Cond.code yX9_lost cX9_lost 1 (some .int) := rfl
theorem qw_486 : qw 486 = Cond.methodLink RX9 186 yX7_howManyTake := rfl
theorem qw_487 : qw 487 = Cond.methodLink RX7 42 yX8_isShop := rfl
theorem qw_488 : qw 488 = Cond.instanceMethod yX8_isShop := rfl
theorem qw_489 : qw 489 = Cond.selects RX8 yX8_isShop yX8_isShop := rfl
theorem qw_490 : qw 490 = Cond.code yX8_isShop cX8_isShop 2 (some .boolean) := rfl
theorem qw_491 : qw 491 = Cond.methodLink RX7 48 yX2_endOfUnseen := rfl
theorem qw_492 : qw 492 = Cond.instanceMethod yX2_endOfUnseen := rfl
theorem qw_493 : qw 493 = Cond.selects RX2 yX2_endOfUnseen yX2_endOfUnseen := rfl
theorem qw_494 : qw 494 = Cond.code yX2_endOfUnseen cX2_endOfUnseen 7 (some .int) := rfl
theorem qw_495 : qw 495 = Cond.methodLink RL 62 yX10_takes := rfl
theorem qw_496 : qw 496 = Cond.instanceMethod yX10_takes := rfl
theorem qw_497 : qw 497 = Cond.selects RX10 yX10_takes yX10_takes := rfl
theorem qw_498 : qw 498 = Cond.code yX10_takes cX10_takes 2 (some .int) := rfl
theorem qw_499 : qw 499 = Cond.methodLink RX10 202 yX10_takesOf := rfl
theorem qw_500 : qw 500 = Cond.instanceMethod yX10_takesOf := rfl
theorem qw_501 : qw 501 = Cond.selects RX10 yX10_takesOf yX10_takesOf := rfl
theorem qw_502 : qw 502 = Cond.code yX10_takesOf cX10_takesOf 2 (some .int) := rfl
theorem qw_503 : qw 503 = Cond.methodLink RX10 199 yX10_takesNow := rfl
theorem qw_504 : qw 504 = Cond.instanceMethod yX10_takesNow := rfl
theorem qw_505 : qw 505 = Cond.selects RX10 yX10_takesNow yX10_takesNow := rfl
theorem qw_506 : qw 506 = Cond.code yX10_takesNow cX10_takesNow 5 (some .int) := rfl
theorem qw_507 : qw 507 = Cond.methodLink RL 63 yX9_safe := rfl
theorem qw_508 : qw 508 = Cond.instanceMethod yX9_safe := rfl
theorem qw_509 : qw 509 = Cond.selects RX9 yX9_safe yX9_safe := rfl
theorem qw_510 : qw 510 = Cond.code yX9_safe cX9_safe 2 (some .int) := rfl
theorem qw_511 : qw 511 = Cond.methodLink RX2 39 Lib.Math.max.name := rfl
theorem qw_512 : qw 512 = Cond.methodLink RL 58 yX10_seen := rfl
theorem qw_513 : qw 513 = Cond.instanceMethod yX10_seen := rfl
theorem qw_514 : qw 514 = Cond.selects RX10 yX10_seen yX10_seen := rfl
theorem qw_515 : qw 515 = Cond.code yX10_seen cX10_seen 3 (some .int) := rfl
theorem qw_516 : qw 516 = Cond.methodLink RX10 196 yX10_seenOf := rfl
theorem qw_517 : qw 517 = Cond.instanceMethod yX10_seenOf := rfl
theorem qw_518 : qw 518 = Cond.selects RX10 yX10_seenOf yX10_seenOf := rfl
theorem qw_519 : qw 519 = Cond.code yX10_seenOf cX10_seenOf 8 (some .int) := rfl
theorem qw_520 : qw 520 = Cond.methodLink RX10 193 yX10_isSeenAt := rfl
theorem qw_521 : qw 521 = Cond.instanceMethod yX10_isSeenAt := rfl
theorem qw_522 : qw 522 = Cond.selects RX10 yX10_isSeenAt yX10_isSeenAt := rfl
theorem qw_523 : qw 523 = Cond.code yX10_isSeenAt cX10_isSeenAt 3 (some .boolean) := rfl
theorem qw_524 : qw 524 = Cond.methodLink RX10 177 yX10_isIn := rfl
theorem qw_525 : qw 525 = Cond.static yX10_isIn := rfl
theorem qw_526 : qw 526 = Cond.code yX10_isIn cX10_isIn 2 (some .boolean) := rfl
theorem qw_527 : qw 527 = Cond.methodLink RL 59 yX9_takes := rfl
theorem qw_528 : qw 528 = Cond.instanceMethod yX9_takes := rfl
theorem qw_529 : qw 529 = Cond.selects RX9 yX9_takes yX9_takes := rfl
theorem qw_530 : qw 530 = Cond.code yX9_takes cX9_takes 2 (some .int) := rfl
theorem qw_531 : qw 531 = Cond.methodLink RX9 172 yX7_takesBehind := rfl
theorem qw_532 : qw 532 = Cond.instanceMethod yX7_takesBehind := rfl
theorem qw_533 : qw 533 = Cond.selects RX7 yX7_takesBehind yX7_takesBehind := rfl
theorem qw_534 : qw 534 = Cond.code yX7_takesBehind cX7_takesBehind 4 (some .int) := rfl
theorem qw_535 : qw 535 = Cond.static yX9_halfOf := rfl
theorem qw_536 : qw 536 = Cond.code yX9_halfOf cX9_halfOf 3 (some .int) := rfl
theorem qw_537 : qw 537 = Cond.constant RX9 413 (262143) := rfl
theorem qw_538 : qw 538 = Cond.methodLink RL 54 yX10_sees := rfl
theorem qw_539 : qw 539 = Cond.instanceMethod yX10_sees := rfl
theorem qw_540 : qw 540 = Cond.selects RX10 yX10_sees yX10_sees := rfl
theorem qw_541 : qw 541 = Cond.code yX10_sees cX10_sees 3 (some .int) := rfl
theorem qw_542 : qw 542 = Cond.methodLink RX10 190 yX10_seesOf := rfl
theorem qw_543 : qw 543 = Cond.instanceMethod yX10_seesOf := rfl
theorem qw_544 : qw 544 = Cond.selects RX10 yX10_seesOf yX10_seesOf := rfl
theorem qw_545 : qw 545 = Cond.code yX10_seesOf cX10_seesOf 3 (some .int) := rfl
theorem qw_546 : qw 546 = Cond.methodLink RL 55 yX9_seen := rfl
theorem qw_547 : qw 547 = Cond.instanceMethod yX9_seen := rfl
theorem qw_548 : qw 548 = Cond.selects RX9 yX9_seen yX9_seen := rfl
theorem qw_549 : qw 549 = Cond.code yX9_seen cX9_seen 3 (some .int) := rfl
theorem qw_550 : qw 550 = Cond.methodLink RX9 162 yX8_has := rfl
theorem qw_551 : qw 551 = Cond.methodLink RX9 165 yX2_momentsSeen := rfl
theorem qw_552 : qw 552 = Cond.instanceMethod yX2_momentsSeen := rfl
theorem qw_553 : qw 553 = Cond.selects RX2 yX2_momentsSeen yX2_momentsSeen := rfl
theorem qw_554 : qw 554 = Cond.code yX2_momentsSeen cX2_momentsSeen 6 (some .int) := rfl
theorem qw_555 : qw 555 = Cond.methodLink RX9 169 yX2_longestUnseen := rfl
theorem qw_556 : qw 556 = Cond.instanceMethod yX2_longestUnseen := rfl
theorem qw_557 : qw 557 = Cond.selects RX2 yX2_longestUnseen yX2_longestUnseen := rfl
theorem qw_558 : qw 558 = Cond.code yX2_longestUnseen cX2_longestUnseen 7 (some .int) := rfl
theorem qw_559 : qw 559 = Cond.fieldLink RX10 148 "CatBeatModel" "lowNow" "I" := rfl
theorem qw_560 : qw 560 = Cond.fieldLink RX10 151 "CatBeatModel" "highNow" "I" := rfl
theorem qw_561 : qw 561 = Cond.methodLink RX10 161 yX10_isFor := rfl
theorem qw_562 : qw 562 = Cond.instanceMethod yX10_isFor := rfl
theorem qw_563 : qw 563 = Cond.selects RX10 yX10_isFor yX10_isFor := rfl
theorem qw_564 : qw 564 = Cond.code yX10_isFor cX10_isFor 3 (some .boolean) := rfl
theorem qw_565 : qw 565 = Cond.methodLink RX10 164 yX10_looks := rfl
theorem qw_566 : qw 566 = Cond.instanceMethod yX10_looks := rfl
theorem qw_567 : qw 567 = Cond.selects RX10 yX10_looks yX10_looks := rfl
theorem qw_568 : qw 568 = Cond.code yX10_looks cX10_looks 6 none := rfl
theorem qw_569 : qw 569 = Cond.methodLink RX10 154 yX10_marks := rfl
theorem qw_570 : qw 570 = Cond.instanceMethod yX10_marks := rfl
theorem qw_571 : qw 571 = Cond.selects RX10 yX10_marks yX10_marks := rfl
theorem qw_572 : qw 572 = Cond.code yX10_marks cX10_marks 2 none := rfl
theorem qw_573 : qw 573 = Cond.methodLink RX10 158 yX10_beside := rfl
theorem qw_574 : qw 574 = Cond.instanceMethod yX10_beside := rfl
theorem qw_575 : qw 575 = Cond.selects RX10 yX10_beside yX10_beside := rfl
theorem qw_576 : qw 576 = Cond.code yX10_beside cX10_beside 4 (some .int) := rfl
theorem qw_577 : qw 577 = Cond.methodLink RL 51 yX9_sees := rfl
theorem qw_578 : qw 578 = Cond.instanceMethod yX9_sees := rfl
theorem qw_579 : qw 579 = Cond.selects RX9 yX9_sees yX9_sees := rfl
theorem qw_580 : qw 580 = Cond.code yX9_sees cX9_sees 3 (some .int) := rfl
theorem qw_581 : qw 581 = Cond.fieldLink RX9 154 "CatBeat$Night" "views" "[J" := rfl
theorem qw_582 : qw 582 = Cond.methodLink RX9 158 yX9_halfOf := rfl
theorem qw_583 : qw 583 = Cond.methodLink RL 50 yX10_at := rfl
theorem qw_584 : qw 584 = Cond.instanceMethod yX10_at := rfl
theorem qw_585 : qw 585 = Cond.selects RX10 yX10_at yX10_at := rfl
theorem qw_586 : qw 586 = Cond.code yX10_at cX10_at 2 (some .int) := rfl
theorem qw_587 : qw 587 = Cond.methodLink RX10 184 yX10_isNumber := rfl
theorem qw_588 : qw 588 = Cond.static yX10_isNumber := rfl
theorem qw_589 : qw 589 = Cond.code yX10_isNumber cX10_isNumber 1 (some .boolean) := rfl
theorem qw_590 : qw 590 = Cond.methodLink RX10 187 yX10_atOf := rfl
theorem qw_591 : qw 591 = Cond.instanceMethod yX10_atOf := rfl
theorem qw_592 : qw 592 = Cond.selects RX10 yX10_atOf yX10_atOf := rfl
theorem qw_593 : qw 593 = Cond.code yX10_atOf cX10_atOf 2 (some .int) := rfl
theorem qw_594 : qw 594 = Cond.methodLink RX10 181 yX10_walksTold := rfl
theorem qw_595 : qw 595 = Cond.instanceMethod yX10_walksTold := rfl
theorem qw_596 : qw 596 = Cond.selects RX10 yX10_walksTold yX10_walksTold := rfl
theorem qw_597 : qw 597 = Cond.code yX10_walksTold cX10_walksTold 1 none := rfl
theorem qw_598 : qw 598 = Cond.methodLink RX10 171 yX10_asTold := rfl
theorem qw_599 : qw 599 = Cond.instanceMethod yX10_asTold := rfl
theorem qw_600 : qw 600 = Cond.selects RX10 yX10_asTold yX10_asTold := rfl
theorem qw_601 : qw 601 = Cond.code yX10_asTold cX10_asTold 2 none := rfl
theorem qw_602 : qw 602 = Cond.fieldLink RX10 168 "CatBeatModel" "round" "I" := rfl
theorem qw_603 : qw 603 = Cond.methodLink RX10 174 yX10_walks := rfl
theorem qw_604 : qw 604 = Cond.instanceMethod yX10_walks := rfl
theorem qw_605 : qw 605 = Cond.selects RX10 yX10_walks yX10_walks := rfl
theorem qw_606 : qw 606 = Cond.code yX10_walks cX10_walks 4 none := rfl
theorem qw_607 : qw 607 = Cond.methodLink RX0 40 yX8_viewFrom := rfl
theorem qw_608 : qw 608 = Cond.instanceMethod yX8_viewFrom := rfl
theorem qw_609 : qw 609 = Cond.selects RX8 yX8_viewFrom yX8_viewFrom := rfl
theorem qw_610 : qw 610 = Cond.code yX8_viewFrom cX8_viewFrom 8 (some .long) := rfl
theorem qw_611 : qw 611 = Cond.methodLink RX8 52 yX8_neighbour := rfl
theorem qw_612 : qw 612 = Cond.instanceMethod yX8_neighbour := rfl
theorem qw_613 : qw 613 = Cond.selects RX8 yX8_neighbour yX8_neighbour := rfl
theorem qw_614 : qw 614 = Cond.code yX8_neighbour cX8_neighbour 4 (some .int) := rfl
theorem qw_615 : qw 615 = Cond.methodLink RX0 44 yX8_neighbour := rfl
theorem qw_616 : qw 616 = Cond.methodLink RX9 213 yX2_walk := rfl
theorem qw_617 : qw 617 = Cond.instanceMethod yX2_walk := rfl
theorem qw_618 : qw 618 = Cond.selects RX2 yX2_walk yX2_walk := rfl
theorem qw_619 : qw 619 = Cond.code yX2_walk cX2_walk 7 none := rfl
theorem qw_620 : qw 620 = Cond.fieldLink RX2 25 "CatBeat$Ground" "views" "[J" := rfl
theorem qw_621 : qw 621 = Cond.fieldLink RX2 26 "CatBeat$Round" "count" "I" := rfl
theorem qw_622 : qw 622 = Cond.fieldLink RX2 32 "CatBeat$Round" "steps" "[I" := rfl
theorem qw_623 : qw 623 = Cond.methodLink RX2 19 yX0_holds := rfl
theorem qw_624 : qw 624 = Cond.instanceMethod yX0_holds := rfl
theorem qw_625 : qw 625 = Cond.selects RX0 yX0_holds yX0_holds := rfl
theorem qw_626 : qw 626 = Cond.code yX0_holds cX0_holds 2 (some .boolean) := rfl
theorem qw_627 : qw 627 = Cond.methodLink RX2 35 yX0_stepFrom := rfl
theorem qw_628 : qw 628 = Cond.instanceMethod yX0_stepFrom := rfl
theorem qw_629 : qw 629 = Cond.selects RX0 yX0_stepFrom yX0_stepFrom := rfl
theorem qw_630 : qw 630 = Cond.code yX0_stepFrom cX0_stepFrom 3 (some .int) := rfl
theorem qw_631 : qw 631 = Cond.instanceMethod yX9_presentSight := rfl
theorem qw_632 : qw 632 = Cond.selects RX9 yX9_presentSight yX9_presentSight := rfl
theorem qw_633 : qw 633 = Cond.code yX9_presentSight cX9_presentSight 1 (some .int) := rfl
theorem qw_634 : qw 634 = Cond.methodLink RX9 401 yX9_foggySight := rfl
theorem qw_635 : qw 635 = Cond.instanceMethod yX9_foggySight := rfl
theorem qw_636 : qw 636 = Cond.selects RX9 yX9_foggySight yX9_foggySight := rfl
theorem qw_637 : qw 637 = Cond.code yX9_foggySight cX9_foggySight 1 (some .int) := rfl
theorem qw_638 : qw 638 = Cond.methodLink RX9 404 Lib.Math.min.name := rfl
theorem qw_639 : qw 639 = Cond.static Lib.Math.min.name := rfl
theorem qw_640 : qw 640 = Cond.code Lib.Math.min.name Lib.Math.min.code 2 (some .int) := rfl
theorem qw_641 : qw 641 = Cond.methodLink RX9 220 yX0_lay := rfl
theorem qw_642 : qw 642 = Cond.instanceMethod yX0_lay := rfl
theorem qw_643 : qw 643 = Cond.selects RX0 yX0_lay yX0_lay := rfl
theorem qw_644 : qw 644 = Cond.code yX0_lay cX0_lay 7 none := rfl
theorem qw_645 : qw 645 = Cond.fieldLink RX0 27 "CatBeat$Ward" "count" "I" := rfl
theorem qw_646 : qw 646 = Cond.methodLink RX0 30 Lib.Math.min.name := rfl
theorem qw_647 : qw 647 = Cond.methodLink RX0 36 yX8_isFor := rfl
theorem qw_648 : qw 648 = Cond.instanceMethod yX8_isFor := rfl
theorem qw_649 : qw 649 = Cond.selects RX8 yX8_isFor yX8_isFor := rfl
theorem qw_650 : qw 650 = Cond.code yX8_isFor cX8_isFor 3 (some .boolean) := rfl
theorem qw_651 : qw 651 = Cond.methodLink RX8 48 yX8_has := rfl
theorem qw_652 : qw 652 = Cond.instanceMethod yX8_has := rfl
theorem qw_653 : qw 653 = Cond.selects RX8 yX8_has yX8_has := rfl
theorem qw_654 : qw 654 = Cond.code yX8_has cX8_has 2 (some .boolean) := rfl
theorem qw_655 : qw 655 = Cond.methodLink RL 43 yX9_set := rfl
theorem qw_656 : qw 656 = Cond.instanceMethod yX9_set := rfl
theorem qw_657 : qw 657 = Cond.selects RX9 yX9_set yX9_set := rfl
theorem qw_658 : qw 658 = Cond.code yX9_set cX9_set 4 (some .int) := rfl
theorem qw_659 : qw 659 = Cond.fieldLink RX9 142 "CatBeat" "MOST_OF_SETTING" "[I" := rfl
theorem qw_660 : qw 660 = Cond.methodLink RL 46 yX10_set := rfl
theorem qw_661 : qw 661 = Cond.instanceMethod yX10_set := rfl
theorem qw_662 : qw 662 = Cond.selects RX10 yX10_set yX10_set := rfl
theorem qw_663 : qw 663 = Cond.code yX10_set cX10_set 4 (some .int) := rfl
theorem qw_664 : qw 664 = Cond.fieldLink RX10 142 "CatBeatModel" "startNow" "I" := rfl
theorem qw_665 : qw 665 = Cond.fieldLink RX10 145 "CatBeatModel" "fogNow" "I" := rfl
theorem qw_666 : qw 666 = Cond.methodLink RL 47 yX9_at := rfl
theorem qw_667 : qw 667 = Cond.instanceMethod yX9_at := rfl
theorem qw_668 : qw 668 = Cond.selects RX9 yX9_at yX9_at := rfl
theorem qw_669 : qw 669 = Cond.code yX9_at cX9_at 2 (some .int) := rfl
theorem qw_670 : qw 670 = Cond.fieldLink RX9 151 "CatBeat$Night" "places" "[I" := rfl
theorem qw_671 : qw 671 = Cond.methodLink RX9 145 yX9_isMoment := rfl
theorem qw_672 : qw 672 = Cond.static yX9_isMoment := rfl
theorem qw_673 : qw 673 = Cond.code yX9_isMoment cX9_isMoment 1 (some .boolean) := rfl
theorem qw_674 : qw 674 = Cond.methodLink RX9 148 yX9_settle := rfl
theorem qw_675 : qw 675 = Cond.instanceMethod yX9_settle := rfl
theorem qw_676 : qw 676 = Cond.selects RX9 yX9_settle yX9_settle := rfl
theorem qw_677 : qw 677 = Cond.code yX9_settle cX9_settle 1 none := rfl
theorem qw_678 : qw 678 = Cond.methodLink RX9 217 yX9_presentSight := rfl
theorem qw_679 : qw 679 = Cond.selects RX10 yX10_beatOf yX10_beatOf := rfl
theorem qw_680 : qw 680 = Cond.code yX10_beatOf cX10_beatOf 2 (some .int) := rfl
theorem qw_681 : qw 681 = Cond.methodLink RL 39 yX9_thief := rfl
theorem qw_682 : qw 682 = Cond.instanceMethod yX9_thief := rfl
theorem qw_683 : qw 683 = Cond.selects RX9 yX9_thief yX9_thief := rfl
theorem qw_684 : qw 684 = Cond.code yX9_thief cX9_thief 3 (some .int) := rfl
theorem qw_685 : qw 685 = Cond.fieldLink RX9 136 "CatBeat$Thieves" "wants" "[I" := rfl
theorem qw_686 : qw 686 = Cond.fieldLink RX9 139 "CatBeat$Thieves" "needs" "[I" := rfl
theorem qw_687 : qw 687 = Cond.methodLink RX9 130 yX9_isThief := rfl
theorem qw_688 : qw 688 = Cond.instanceMethod yX9_isThief := rfl
theorem qw_689 : qw 689 = Cond.selects RX9 yX9_isThief yX9_isThief := rfl
theorem qw_690 : qw 690 = Cond.code yX9_isThief cX9_isThief 2 (some .boolean) := rfl
theorem qw_691 : qw 691 = Cond.fieldLink RX9 190 "CatBeat$Thieves" "count" "I" := rfl
theorem qw_692 : qw 692 = Cond.methodLink RX9 133 yX9_isEither := rfl
theorem qw_693 : qw 693 = Cond.static yX9_isEither := rfl
theorem qw_694 : qw 694 = Cond.code yX9_isEither cX9_isEither 1 (some .boolean) := rfl
theorem qw_695 : qw 695 = Cond.methodLink RL 42 yX10_thief := rfl
theorem qw_696 : qw 696 = Cond.instanceMethod yX10_thief := rfl
theorem qw_697 : qw 697 = Cond.selects RX10 yX10_thief yX10_thief := rfl
theorem qw_698 : qw 698 = Cond.code yX10_thief cX10_thief 3 (some .int) := rfl
theorem qw_699 : qw 699 = Cond.methodLink RX10 139 yX10_isThief := rfl
theorem qw_700 : qw 700 = Cond.instanceMethod yX10_isThief := rfl
theorem qw_701 : qw 701 = Cond.selects RX10 yX10_isThief yX10_isThief := rfl
theorem qw_702 : qw 702 = Cond.code yX10_isThief cX10_isThief 2 (some .boolean) := rfl
theorem qw_703 : qw 703 = Cond.methodLink RL 34 yX10_cell := rfl
theorem qw_704 : qw 704 = Cond.instanceMethod yX10_cell := rfl
theorem qw_705 : qw 705 = Cond.selects RX10 yX10_cell yX10_cell := rfl
theorem qw_706 : qw 706 = Cond.code yX10_cell cX10_cell 2 (some .int) := rfl
theorem qw_707 : qw 707 = Cond.methodLink RX10 133 yX10_isCell := rfl
theorem qw_708 : qw 708 = Cond.instanceMethod yX10_isCell := rfl
theorem qw_709 : qw 709 = Cond.selects RX10 yX10_isCell yX10_isCell := rfl
theorem qw_710 : qw 710 = Cond.code yX10_isCell cX10_isCell 2 (some .boolean) := rfl
theorem qw_711 : qw 711 = Cond.methodLink RX10 130 yX10_reads := rfl
theorem qw_712 : qw 712 = Cond.instanceMethod yX10_reads := rfl
theorem qw_713 : qw 713 = Cond.selects RX10 yX10_reads yX10_reads := rfl
theorem qw_714 : qw 714 = Cond.code yX10_reads cX10_reads 2 none := rfl
theorem qw_715 : qw 715 = Cond.methodLink RL 35 yX9_beat := rfl
theorem qw_716 : qw 716 = Cond.instanceMethod yX9_beat := rfl
theorem qw_717 : qw 717 = Cond.selects RX9 yX9_beat yX9_beat := rfl
theorem qw_718 : qw 718 = Cond.code yX9_beat cX9_beat 2 (some .int) := rfl
theorem qw_719 : qw 719 = Cond.fieldLink RX9 126 "CatBeat$Round" "count" "I" := rfl
theorem qw_720 : qw 720 = Cond.fieldLink RX9 127 "CatBeat$Round" "steps" "[I" := rfl
theorem qw_721 : qw 721 = Cond.methodLink RL 38 yX10_beat := rfl
theorem qw_722 : qw 722 = Cond.instanceMethod yX10_beat := rfl
theorem qw_723 : qw 723 = Cond.selects RX10 yX10_beat yX10_beat := rfl
theorem qw_724 : qw 724 = Cond.code yX10_beat cX10_beat 2 (some .int) := rfl
theorem qw_725 : qw 725 = Cond.methodLink RX10 136 yX10_beatOf := rfl
theorem qw_726 : qw 726 = Cond.instanceMethod yX10_beatOf := rfl
theorem qw_727 : qw 727 = Cond.code yX10_readsBeat cX10_readsBeat 3 (some .int) := rfl
theorem qw_728 : qw 728 = Cond.fieldLink RX10 101 "CatBeatModel" "steps" "I" := rfl
theorem qw_729 : qw 729 = Cond.methodLink RX10 104 yX10_byteAt := rfl
theorem qw_730 : qw 730 = Cond.instanceMethod yX10_byteAt := rfl
theorem qw_731 : qw 731 = Cond.selects RX10 yX10_byteAt yX10_byteAt := rfl
theorem qw_732 : qw 732 = Cond.code yX10_byteAt cX10_byteAt 3 (some .int) := rfl
theorem qw_733 : qw 733 = Cond.methodLink RX10 108 yX10_wayOf := rfl
theorem qw_734 : qw 734 = Cond.static yX10_wayOf := rfl
theorem qw_735 : qw 735 = Cond.code yX10_wayOf cX10_wayOf 1 (some .int) := rfl
theorem qw_736 : qw 736 = Cond.methodLink RX10 124 yX10_readsThieves := rfl
theorem qw_737 : qw 737 = Cond.instanceMethod yX10_readsThieves := rfl
theorem qw_738 : qw 738 = Cond.selects RX10 yX10_readsThieves yX10_readsThieves := rfl
theorem qw_739 : qw 739 = Cond.code yX10_readsThieves cX10_readsThieves 4 (some .int) := rfl
theorem qw_740 : qw 740 = Cond.fieldLink RX10 111 "CatBeatModel" "thieves" "I" := rfl
theorem qw_741 : qw 741 = Cond.methodLink RX10 114 yX10_readsThief := rfl
theorem qw_742 : qw 742 = Cond.instanceMethod yX10_readsThief := rfl
theorem qw_743 : qw 743 = Cond.selects RX10 yX10_readsThief yX10_readsThief := rfl
theorem qw_744 : qw 744 = Cond.code yX10_readsThief cX10_readsThief 6 (some .int) := rfl
theorem qw_745 : qw 745 = Cond.methodLink RL 31 yX9_cell := rfl
theorem qw_746 : qw 746 = Cond.instanceMethod yX9_cell := rfl
theorem qw_747 : qw 747 = Cond.selects RX9 yX9_cell yX9_cell := rfl
theorem qw_748 : qw 748 = Cond.code yX9_cell cX9_cell 2 (some .int) := rfl
theorem qw_749 : qw 749 = Cond.fieldLink RX9 120 "CatBeat$Ward" "count" "I" := rfl
theorem qw_750 : qw 750 = Cond.fieldLink RX9 123 "CatBeat$Ward" "kinds" "[I" := rfl
theorem qw_751 : qw 751 = Cond.instanceMethod yX9_fault := rfl
theorem qw_752 : qw 752 = Cond.selects RX9 yX9_fault yX9_fault := rfl
theorem qw_753 : qw 753 = Cond.code yX9_fault cX9_fault 2 (some .int) := rfl
theorem qw_754 : qw 754 = Cond.methodLink RL 30 yX10_fault := rfl
theorem qw_755 : qw 755 = Cond.instanceMethod yX10_fault := rfl
theorem qw_756 : qw 756 = Cond.selects RX10 yX10_fault yX10_fault := rfl
theorem qw_757 : qw 757 = Cond.code yX10_fault cX10_fault 2 (some .int) := rfl
theorem qw_758 : qw 758 = Cond.methodLink RX10 127 yX10_faultOf := rfl
theorem qw_759 : qw 759 = Cond.instanceMethod yX10_faultOf := rfl
theorem qw_760 : qw 760 = Cond.selects RX10 yX10_faultOf yX10_faultOf := rfl
theorem qw_761 : qw 761 = Cond.code yX10_faultOf cX10_faultOf 5 (some .int) := rfl
theorem qw_762 : qw 762 = Cond.methodLink RX10 117 yX10_readsWard := rfl
theorem qw_763 : qw 763 = Cond.instanceMethod yX10_readsWard := rfl
theorem qw_764 : qw 764 = Cond.selects RX10 yX10_readsWard yX10_readsWard := rfl
theorem qw_765 : qw 765 = Cond.code yX10_readsWard cX10_readsWard 6 (some .int) := rfl
theorem qw_766 : qw 766 = Cond.fieldLink RX10 88 "CatBeatModel" "cells" "I" := rfl
theorem qw_767 : qw 767 = Cond.fieldLink RX10 91 "CatBeatModel" "rows" "I" := rfl
theorem qw_768 : qw 768 = Cond.fieldLink RX10 94 "CatBeatModel" "wide" "I" := rfl
theorem qw_769 : qw 769 = Cond.methodLink RX10 97 yX10_kindOf := rfl
theorem qw_770 : qw 770 = Cond.static yX10_kindOf := rfl
theorem qw_771 : qw 771 = Cond.code yX10_kindOf cX10_kindOf 1 (some .int) := rfl
theorem qw_772 : qw 772 = Cond.methodLink RX10 121 yX10_readsBeat := rfl
theorem qw_773 : qw 773 = Cond.instanceMethod yX10_readsBeat := rfl
theorem qw_774 : qw 774 = Cond.selects RX10 yX10_readsBeat yX10_readsBeat := rfl
theorem qw_775 : qw 775 = Cond.code yX10_type cX10_type 3 (some .int) := rfl
theorem qw_776 : qw 776 = Cond.methodLink RX10 84 yX10_isText := rfl
theorem qw_777 : qw 777 = Cond.static yX10_isText := rfl
theorem qw_778 : qw 778 = Cond.code yX10_isText cX10_isText 1 (some .boolean) := rfl
theorem qw_779 : qw 779 = Cond.methodLink RX10 80 yX10_in := rfl
theorem qw_780 : qw 780 = Cond.static yX10_in := rfl
theorem qw_781 : qw 781 = Cond.code yX10_in cX10_in 3 (some .boolean) := rfl
theorem qw_782 : qw 782 = Cond.methodLink RL 18 yX9_wipe := rfl
theorem qw_783 : qw 783 = Cond.instanceMethod yX9_wipe := rfl
theorem qw_784 : qw 784 = Cond.selects RX9 yX9_wipe yX9_wipe := rfl
theorem qw_785 : qw 785 = Cond.code yX9_wipe cX9_wipe 3 (some .int) := rfl
theorem qw_786 : qw 786 = Cond.methodLink RL 22 yX10_wipe := rfl
theorem qw_787 : qw 787 = Cond.instanceMethod yX10_wipe := rfl
theorem qw_788 : qw 788 = Cond.selects RX10 yX10_wipe yX10_wipe := rfl
theorem qw_789 : qw 789 = Cond.code yX10_wipe cX10_wipe 3 (some .int) := rfl
theorem qw_790 : qw 790 = Cond.methodLink RL 23 yX9_undo := rfl
theorem qw_791 : qw 791 = Cond.instanceMethod yX9_undo := rfl
theorem qw_792 : qw 792 = Cond.selects RX9 yX9_undo yX9_undo := rfl
theorem qw_793 : qw 793 = Cond.code yX9_undo cX9_undo 2 (some .int) := rfl
theorem qw_794 : qw 794 = Cond.methodLink RL 26 yX10_undo := rfl
theorem qw_795 : qw 795 = Cond.instanceMethod yX10_undo := rfl
theorem qw_796 : qw 796 = Cond.selects RX10 yX10_undo yX10_undo := rfl
theorem qw_797 : qw 797 = Cond.code yX10_undo cX10_undo 2 (some .int) := rfl
theorem qw_798 : qw 798 = Cond.methodLink RL 27 yX9_fault := rfl
theorem qw_799 : qw 799 = Cond.methodLink RX4 31 yX4_add := rfl
theorem qw_800 : qw 800 = Cond.instanceMethod yX4_add := rfl
theorem qw_801 : qw 801 = Cond.selects RX4 yX4_add yX4_add := rfl
theorem qw_802 : qw 802 = Cond.code yX4_add cX4_add 2 none := rfl
theorem qw_803 : qw 803 = Cond.methodLink RX9 400 yX7_parse := rfl
theorem qw_804 : qw 804 = Cond.instanceMethod yX7_parse := rfl
theorem qw_805 : qw 805 = Cond.selects RX7 yX7_parse yX7_parse := rfl
theorem qw_806 : qw 806 = Cond.code yX7_parse cX7_parse 3 (some .int) := rfl
theorem qw_807 : qw 807 = Cond.fieldLink RX7 22 "CatBeat$Text" "length" "I" := rfl
theorem qw_808 : qw 808 = Cond.fieldLink RX7 27 "CatBeat$Text" "bytes" "[I" := rfl
theorem qw_809 : qw 809 = Cond.methodLink RX7 30 yX7_mayStandAt := rfl
theorem qw_810 : qw 810 = Cond.static yX7_mayStandAt := rfl
theorem qw_811 : qw 811 = Cond.code yX7_mayStandAt cX7_mayStandAt 2 (some .boolean) := rfl
theorem qw_812 : qw 812 = Cond.methodLink RX7 34 yX7_fail := rfl
theorem qw_813 : qw 813 = Cond.instanceMethod yX7_fail := rfl
theorem qw_814 : qw 814 = Cond.selects RX7 yX7_fail yX7_fail := rfl
theorem qw_815 : qw 815 = Cond.code yX7_fail cX7_fail 2 (some .int) := rfl
theorem qw_816 : qw 816 = Cond.methodLink RX7 38 yX7_add := rfl
theorem qw_817 : qw 817 = Cond.instanceMethod yX7_add := rfl
theorem qw_818 : qw 818 = Cond.selects RX7 yX7_add yX7_add := rfl
theorem qw_819 : qw 819 = Cond.code yX7_add cX7_add 3 (some .boolean) := rfl
theorem qw_820 : qw 820 = Cond.methodLink RL 17 yX10_type := rfl
theorem qw_821 : qw 821 = Cond.instanceMethod yX10_type := rfl
theorem qw_822 : qw 822 = Cond.selects RX10 yX10_type yX10_type := rfl
theorem qw_823 : qw 823 = Cond.methodLink RX8 26 yX8_clear := rfl
theorem qw_824 : qw 824 = Cond.instanceMethod yX8_clear := rfl
theorem qw_825 : qw 825 = Cond.selects RX8 yX8_clear yX8_clear := rfl
theorem qw_826 : qw 826 = Cond.code yX8_clear cX8_clear 1 none := rfl
theorem qw_827 : qw 827 = Cond.methodLink RX8 37 yX8_kindOf := rfl
theorem qw_828 : qw 828 = Cond.static yX8_kindOf := rfl
theorem qw_829 : qw 829 = Cond.code yX8_kindOf cX8_kindOf 1 (some .int) := rfl
theorem qw_830 : qw 830 = Cond.methodLink RX8 41 yX8_fail := rfl
theorem qw_831 : qw 831 = Cond.instanceMethod yX8_fail := rfl
theorem qw_832 : qw 832 = Cond.selects RX8 yX8_fail yX8_fail := rfl
theorem qw_833 : qw 833 = Cond.code yX8_fail cX8_fail 2 (some .int) := rfl
theorem qw_834 : qw 834 = Cond.methodLink RX8 44 yX8_addCell := rfl
theorem qw_835 : qw 835 = Cond.instanceMethod yX8_addCell := rfl
theorem qw_836 : qw 836 = Cond.selects RX8 yX8_addCell yX8_addCell := rfl
theorem qw_837 : qw 837 = Cond.code yX8_addCell cX8_addCell 2 none := rfl
theorem qw_838 : qw 838 = Cond.methodLink RX9 399 yX4_parse := rfl
theorem qw_839 : qw 839 = Cond.instanceMethod yX4_parse := rfl
theorem qw_840 : qw 840 = Cond.selects RX4 yX4_parse yX4_parse := rfl
theorem qw_841 : qw 841 = Cond.code yX4_parse cX4_parse 4 (some .int) := rfl
theorem qw_842 : qw 842 = Cond.fieldLink RX4 19 "CatBeat$Text" "length" "I" := rfl
theorem qw_843 : qw 843 = Cond.fieldLink RX4 24 "CatBeat$Text" "bytes" "[I" := rfl
theorem qw_844 : qw 844 = Cond.methodLink RX4 27 yX4_stepOf := rfl
theorem qw_845 : qw 845 = Cond.static yX4_stepOf := rfl
theorem qw_846 : qw 846 = Cond.code yX4_stepOf cX4_stepOf 1 (some .int) := rfl
theorem qw_847 : qw 847 = Cond.fieldLink RX10 75 "CatBeatModel" "sightNow" "I" := rfl
theorem qw_848 : qw 848 = Cond.methodLink RL 13 yX9_type := rfl
theorem qw_849 : qw 849 = Cond.instanceMethod yX9_type := rfl
theorem qw_850 : qw 850 = Cond.selects RX9 yX9_type yX9_type := rfl
theorem qw_851 : qw 851 = Cond.code yX9_type cX9_type 3 (some .int) := rfl
theorem qw_852 : qw 852 = Cond.fieldLink RX9 117 "CatBeat$Text" "length" "I" := rfl
theorem qw_853 : qw 853 = Cond.methodLink RX9 107 yX9_isText := rfl
theorem qw_854 : qw 854 = Cond.instanceMethod yX9_isText := rfl
theorem qw_855 : qw 855 = Cond.selects RX9 yX9_isText yX9_isText := rfl
theorem qw_856 : qw 856 = Cond.code yX9_isText cX9_isText 2 (some .boolean) := rfl
theorem qw_857 : qw 857 = Cond.methodLink RX9 111 yX6_append := rfl
theorem qw_858 : qw 858 = Cond.instanceMethod yX6_append := rfl
theorem qw_859 : qw 859 = Cond.selects RX6 yX6_append yX6_append := rfl
theorem qw_860 : qw 860 = Cond.code yX6_append cX6_append 2 (some .boolean) := rfl
theorem qw_861 : qw 861 = Cond.methodLink RX9 114 yX9_readAgain := rfl
theorem qw_862 : qw 862 = Cond.instanceMethod yX9_readAgain := rfl
theorem qw_863 : qw 863 = Cond.selects RX9 yX9_readAgain yX9_readAgain := rfl
theorem qw_864 : qw 864 = Cond.code yX9_readAgain cX9_readAgain 2 none := rfl
theorem qw_865 : qw 865 = Cond.methodLink RX9 395 yX8_parse := rfl
theorem qw_866 : qw 866 = Cond.instanceMethod yX8_parse := rfl
theorem qw_867 : qw 867 = Cond.selects RX8 yX8_parse yX8_parse := rfl
theorem qw_868 : qw 868 = Cond.code yX8_parse cX8_parse 6 (some .int) := rfl
theorem qw_869 : qw 869 = Cond.fieldLink RX8 29 "CatBeat$Text" "length" "I" := rfl
theorem qw_870 : qw 870 = Cond.fieldLink RX8 34 "CatBeat$Text" "bytes" "[I" := rfl
theorem qw_871 : qw 871 = Cond.instanceMethod yX10_init := rfl
theorem qw_872 : qw 872 = Cond.code yX10_init cX10_init 1 none := rfl
theorem qw_873 : qw 873 = Cond.methodLink RX10 1 objectInit := rfl
theorem qw_874 : qw 874 = Cond.fieldLink RX10 7 "CatBeatModel" "typed" "[I" := rfl
theorem qw_875 : qw 875 = Cond.fieldLink RX10 13 "CatBeatModel" "texts" "[I" := rfl
theorem qw_876 : qw 876 = Cond.fieldLink RX10 16 "CatBeatModel" "kinds" "[I" := rfl
theorem qw_877 : qw 877 = Cond.fieldLink RX10 19 "CatBeatModel" "beatTold" "[I" := rfl
theorem qw_878 : qw 878 = Cond.fieldLink RX10 22 "CatBeatModel" "wants" "[I" := rfl
theorem qw_879 : qw 879 = Cond.fieldLink RX10 25 "CatBeatModel" "needs" "[I" := rfl
theorem qw_880 : qw 880 = Cond.fieldLink RX10 28 "CatBeatModel" "beatNow" "[I" := rfl
theorem qw_881 : qw 881 = Cond.fieldLink RX10 31 "CatBeatModel" "isFog" "[Z" := rfl
theorem qw_882 : qw 882 = Cond.fieldLink RX10 35 "CatBeatModel" "places" "[I" := rfl
theorem qw_883 : qw 883 = Cond.fieldLink RX10 38 "CatBeatModel" "low" "[I" := rfl
theorem qw_884 : qw 884 = Cond.fieldLink RX10 41 "CatBeatModel" "high" "[I" := rfl
theorem qw_885 : qw 885 = Cond.fieldLink RX10 44 "CatBeatModel" "planRow" "[I" := rfl
theorem qw_886 : qw 886 = Cond.fieldLink RX10 47 "CatBeatModel" "missCell" "[I" := rfl
theorem qw_887 : qw 887 = Cond.fieldLink RX10 50 "CatBeatModel" "missIs" "[I" := rfl
theorem qw_888 : qw 888 = Cond.fieldLink RX10 53 "CatBeatModel" "takenBy" "[I" := rfl
theorem qw_889 : qw 889 = Cond.fieldLink RX10 56 "CatBeatModel" "isThere" "[Z" := rfl
theorem qw_890 : qw 890 = Cond.fieldLink RX10 59 "CatBeatModel" "forms" "[I" := rfl
theorem qw_891 : qw 891 = Cond.fieldLink RX10 62 "CatBeatModel" "sizes" "[I" := rfl
theorem qw_892 : qw 892 = Cond.fieldLink RX10 65 "CatBeatModel" "items" "[I" := rfl
theorem qw_893 : qw 893 = Cond.fieldLink RX10 68 "CatBeatModel" "moved" "[I" := rfl
theorem qw_894 : qw 894 = Cond.fieldLink RX10 71 "CatBeatModel" "girthNow" "I" := rfl
theorem qw_895 : qw 895 = Cond.fieldLink RX2 15 "CatBeat$Night" "views" "[J" := rfl
theorem qw_896 : qw 896 = Cond.instanceMethod yX3_init := rfl
theorem qw_897 : qw 897 = Cond.code yX3_init cX3_init 1 none := rfl
theorem qw_898 : qw 898 = Cond.methodLink RX3 3 objectInit := rfl
theorem qw_899 : qw 899 = Cond.fieldLink RX3 9 "CatBeat$Odds" "ways" "[J" := rfl
theorem qw_900 : qw 900 = Cond.fieldLink RX3 15 "CatBeat$Odds" "need" "I" := rfl
theorem qw_901 : qw 901 = Cond.methodLink RX9 103 yX6_init := rfl
theorem qw_902 : qw 902 = Cond.instanceMethod yX6_init := rfl
theorem qw_903 : qw 903 = Cond.code yX6_init cX6_init 2 none := rfl
theorem qw_904 : qw 904 = Cond.methodLink RX6 1 objectInit := rfl
theorem qw_905 : qw 905 = Cond.fieldLink RX6 7 "CatBeat$Text" "length" "I" := rfl
theorem qw_906 : qw 906 = Cond.methodLink RX6 13 Lib.Math.max.name := rfl
theorem qw_907 : qw 907 = Cond.static Lib.Math.max.name := rfl
theorem qw_908 : qw 908 = Cond.initialized "java/lang/Math" := rfl
theorem qw_909 : qw 909 = Cond.code Lib.Math.max.name Lib.Math.max.code 2 (some .int) := rfl
theorem qw_910 : qw 910 = Cond.fieldLink RX6 19 "CatBeat$Text" "bytes" "[I" := rfl
theorem qw_911 : qw 911 = Cond.instanceMethod yX5_init := rfl
theorem qw_912 : qw 912 = Cond.code yX5_init cX5_init 1 none := rfl
theorem qw_913 : qw 913 = Cond.methodLink RX5 3 objectInit := rfl
theorem qw_914 : qw 914 = Cond.fieldLink RX5 9 "CatBeat$Sheet" "items" "[I" := rfl
theorem qw_915 : qw 915 = Cond.fieldLink RX5 15 "CatBeat$Sheet" "lost" "Z" := rfl
theorem qw_916 : qw 916 = Cond.fieldLink RX5 19 "CatBeat$Sheet" "form" "I" := rfl
theorem qw_917 : qw 917 = Cond.fieldLink RX5 23 "CatBeat$Sheet" "size" "I" := rfl
theorem qw_918 : qw 918 = Cond.methodLink RL 12 yX10_init := rfl
theorem qw_919 : qw 919 = Cond.code yX7_init cX7_init 1 none := rfl
theorem qw_920 : qw 920 = Cond.methodLink RX7 3 objectInit := rfl
theorem qw_921 : qw 921 = Cond.fieldLink RX7 9 "CatBeat$Thieves" "wants" "[I" := rfl
theorem qw_922 : qw 922 = Cond.fieldLink RX7 15 "CatBeat$Thieves" "needs" "[I" := rfl
theorem qw_923 : qw 923 = Cond.fieldLink RX7 18 "CatBeat$Thieves" "count" "I" := rfl
theorem qw_924 : qw 924 = Cond.instanceMethod yX1_init := rfl
theorem qw_925 : qw 925 = Cond.code yX1_init cX1_init 1 none := rfl
theorem qw_926 : qw 926 = Cond.methodLink RX1 3 objectInit := rfl
theorem qw_927 : qw 927 = Cond.fieldLink RX1 9 "CatBeat$Missed" "cells" "[I" := rfl
theorem qw_928 : qw 928 = Cond.fieldLink RX1 15 "CatBeat$Missed" "outcomes" "[I" := rfl
theorem qw_929 : qw 929 = Cond.fieldLink RX1 18 "CatBeat$Missed" "count" "I" := rfl
theorem qw_930 : qw 930 = Cond.instanceMethod yX0_init := rfl
theorem qw_931 : qw 931 = Cond.code yX0_init cX0_init 1 none := rfl
theorem qw_932 : qw 932 = Cond.methodLink RX0 3 objectInit := rfl
theorem qw_933 : qw 933 = Cond.fieldLink RX0 9 "CatBeat$Ground" "next" "[I" := rfl
theorem qw_934 : qw 934 = Cond.arrayClass .long := rfl
theorem qw_935 : qw 935 = Cond.fieldLink RX0 15 "CatBeat$Ground" "views" "[J" := rfl
theorem qw_936 : qw 936 = Cond.arrayClass .boolean := rfl
theorem qw_937 : qw 937 = Cond.fieldLink RX0 19 "CatBeat$Ground" "held" "[Z" := rfl
theorem qw_938 : qw 938 = Cond.fieldLink RX0 23 "CatBeat$Ground" "count" "I" := rfl
theorem qw_939 : qw 939 = Cond.instanceMethod yX2_init := rfl
theorem qw_940 : qw 940 = Cond.code yX2_init cX2_init 1 none := rfl
theorem qw_941 : qw 941 = Cond.methodLink RX2 3 objectInit := rfl
theorem qw_942 : qw 942 = Cond.fieldLink RX2 9 "CatBeat$Night" "places" "[I" := rfl
theorem qw_943 : qw 943 = Cond.initialized RX3 := rfl
theorem qw_944 : qw 944 = Cond.fieldLink RX9 82 "CatBeat" "odds" "LCatBeat$Odds;" := rfl
theorem qw_945 : qw 945 = Cond.fieldLink RX9 86 "CatBeat" "takings" "[I" := rfl
theorem qw_946 : qw 946 = Cond.fieldLink RX9 89 "CatBeat" "latestFinding" "I" := rfl
theorem qw_947 : qw 947 = Cond.fieldLink RX9 93 "CatBeat" "stale" "Z" := rfl
theorem qw_948 : qw 948 = Cond.fieldLink RX9 97 "CatBeat" "trimmed" "I" := rfl
theorem qw_949 : qw 949 = Cond.instantiable RX6 2 := rfl
theorem qw_950 : qw 950 = Cond.initialized RX6 := rfl
theorem qw_951 : qw 951 = Cond.fieldLink RX9 100 "CatBeat" "TEXT_LIMITS" "[I" := rfl
theorem qw_952 : qw 952 = Cond.instantiable RX5 4 := rfl
theorem qw_953 : qw 953 = Cond.initialized RX5 := rfl
theorem qw_954 : qw 954 = Cond.instanceMethod yX8_init := rfl
theorem qw_955 : qw 955 = Cond.code yX8_init cX8_init 1 none := rfl
theorem qw_956 : qw 956 = Cond.methodLink RX8 3 objectInit := rfl
theorem qw_957 : qw 957 = Cond.fieldLink RX8 9 "CatBeat$Ward" "kinds" "[I" := rfl
theorem qw_958 : qw 958 = Cond.fieldLink RX8 15 "CatBeat$Ward" "count" "I" := rfl
theorem qw_959 : qw 959 = Cond.fieldLink RX8 19 "CatBeat$Ward" "width" "I" := rfl
theorem qw_960 : qw 960 = Cond.fieldLink RX8 22 "CatBeat$Ward" "shops" "J" := rfl
theorem qw_961 : qw 961 = Cond.instanceMethod yX4_init := rfl
theorem qw_962 : qw 962 = Cond.code yX4_init cX4_init 1 none := rfl
theorem qw_963 : qw 963 = Cond.methodLink RX4 3 objectInit := rfl
theorem qw_964 : qw 964 = Cond.fieldLink RX4 9 "CatBeat$Round" "steps" "[I" := rfl
theorem qw_965 : qw 965 = Cond.fieldLink RX4 15 "CatBeat$Round" "count" "I" := rfl
theorem qw_966 : qw 966 = Cond.instanceMethod yX7_init := rfl
theorem qw_967 : qw 967 = Cond.fieldLink RX9 32 "CatBeat" "round" "LCatBeat$Round;" := rfl
theorem qw_968 : qw 968 = Cond.classLink RX9 36 RX7 := rfl
theorem qw_969 : qw 969 = Cond.instantiable RX7 3 := rfl
theorem qw_970 : qw 970 = Cond.initialized RX7 := rfl
theorem qw_971 : qw 971 = Cond.fieldLink RX9 39 "CatBeat" "thieves" "LCatBeat$Thieves;" := rfl
theorem qw_972 : qw 972 = Cond.classLink RX9 43 RX1 := rfl
theorem qw_973 : qw 973 = Cond.instantiable RX1 3 := rfl
theorem qw_974 : qw 974 = Cond.initialized RX1 := rfl
theorem qw_975 : qw 975 = Cond.fieldLink RX9 46 "CatBeat" "missing" "LCatBeat$Missed;" := rfl
theorem qw_976 : qw 976 = Cond.classLink RX9 50 RX5 := rfl
theorem qw_977 : qw 977 = Cond.fieldLink RX9 52 "CatBeat" "sheets" "[LCatBeat$Sheet;" := rfl
theorem qw_978 : qw 978 = Cond.classLink RX9 56 RX0 := rfl
theorem qw_979 : qw 979 = Cond.instantiable RX0 4 := rfl
theorem qw_980 : qw 980 = Cond.initialized RX0 := rfl
theorem qw_981 : qw 981 = Cond.fieldLink RX9 59 "CatBeat" "ground" "LCatBeat$Ground;" := rfl
theorem qw_982 : qw 982 = Cond.classLink RX9 63 RX2 := rfl
theorem qw_983 : qw 983 = Cond.instantiable RX2 2 := rfl
theorem qw_984 : qw 984 = Cond.initialized RX2 := rfl
theorem qw_985 : qw 985 = Cond.fieldLink RX9 66 "CatBeat" "night" "LCatBeat$Night;" := rfl
theorem qw_986 : qw 986 = Cond.fieldLink RX9 70 "CatBeat" "otherRound" "LCatBeat$Round;" := rfl
theorem qw_987 : qw 987 = Cond.fieldLink RX9 73 "CatBeat" "otherGround" "LCatBeat$Ground;" := rfl
theorem qw_988 : qw 988 = Cond.fieldLink RX9 76 "CatBeat" "otherNight" "LCatBeat$Night;" := rfl
theorem qw_989 : qw 989 = Cond.classLink RX9 79 RX3 := rfl
theorem qw_990 : qw 990 = Cond.instantiable RX3 2 := rfl
theorem qw_991 : qw 991 = Cond.classLink RL 7 RX9 := rfl
theorem qw_992 : qw 992 = Cond.instantiable RX9 18 := rfl
theorem qw_993 : qw 993 = Cond.initialized RX9 := rfl
theorem qw_994 : qw 994 = Cond.classLink RL 10 RX10 := rfl
theorem qw_995 : qw 995 = Cond.instantiable RX10 34 := rfl
theorem qw_996 : qw 996 = Cond.initialized RX10 := rfl
theorem qw_997 : qw 997 = Cond.methodLink RL 9 yX9_init := rfl
theorem qw_998 : qw 998 = Cond.instanceMethod yX9_init := rfl
theorem qw_999 : qw 999 = Cond.code yX9_init cX9_init 2 none := rfl
theorem qw_1000 : qw 1000 = Cond.methodLink RX9 3 objectInit := rfl
theorem qw_1001 : qw 1001 = Cond.instanceMethod objectInit := rfl
theorem qw_1002 : qw 1002 = Cond.code objectInit ⟨#[0xb1]⟩ 1 none := rfl
theorem qw_1003 : qw 1003 = Cond.classLink RX9 9 RX6 := rfl
theorem qw_1004 : qw 1004 = Cond.fieldLink RX9 11 "CatBeat" "texts" "[LCatBeat$Text;" := rfl
theorem qw_1005 : qw 1005 = Cond.arrayClass .int := rfl
theorem qw_1006 : qw 1006 = Cond.fieldLink RX9 15 "CatBeat" "faults" "[I" := rfl
theorem qw_1007 : qw 1007 = Cond.fieldLink RX9 19 "CatBeat" "settings" "[I" := rfl
theorem qw_1008 : qw 1008 = Cond.classLink RX9 22 RX8 := rfl
theorem qw_1009 : qw 1009 = Cond.instantiable RX8 4 := rfl
theorem qw_1010 : qw 1010 = Cond.initialized RX8 := rfl
theorem qw_1011 : qw 1011 = Cond.fieldLink RX9 25 "CatBeat" "ward" "LCatBeat$Ward;" := rfl
theorem qw_1012 : qw 1012 = Cond.classLink RX9 29 RX4 := rfl
theorem qw_1013 : qw 1013 = Cond.instantiable RX4 2 := rfl
theorem qw_1014 : qw 1014 = Cond.initialized RX4 := rfl
theorem qw_1015 : qw 1015 = Cond.code yJ9_min_7cf53 cJ9_min_7cf53 2 (some .int) := rfl
theorem qw_1016 : qw 1016 = Cond.code yJ9_max_7cf53 cJ9_max_7cf53 2 (some .int) := rfl
theorem qw_1017 : qw 1017 = u_lay RX10 TX10 0 := rfl
theorem qw_1018 : qw 1018 = u_lay RX10 TX10 1 := rfl
theorem qw_1019 : qw 1019 = u_lay RX10 TX10 2 := rfl
theorem qw_1020 : qw 1020 = u_lay RX10 TX10 3 := rfl
theorem qw_1021 : qw 1021 = u_lay RX10 TX10 4 := rfl
theorem qw_1022 : qw 1022 = u_lay RX10 TX10 5 := rfl
theorem qw_1023 : qw 1023 = u_lay RX10 TX10 6 := rfl
theorem qw_1024 : qw 1024 = u_lay RX10 TX10 7 := rfl
theorem qw_1025 : qw 1025 = u_lay RX10 TX10 8 := rfl
theorem qw_1026 : qw 1026 = u_lay RX10 TX10 9 := rfl
theorem qw_1027 : qw 1027 = u_lay RX10 TX10 10 := rfl
theorem qw_1028 : qw 1028 = u_lay RX10 TX10 11 := rfl
theorem qw_1029 : qw 1029 = u_lay RX10 TX10 12 := rfl
theorem qw_1030 : qw 1030 = u_lay RX10 TX10 13 := rfl
theorem qw_1031 : qw 1031 = u_lay RX10 TX10 14 := rfl
theorem qw_1032 : qw 1032 = u_lay RX10 TX10 15 := rfl
theorem qw_1033 : qw 1033 = u_lay RX10 TX10 16 := rfl
theorem qw_1034 : qw 1034 = u_lay RX10 TX10 17 := rfl
theorem qw_1035 : qw 1035 = u_lay RX10 TX10 18 := rfl
theorem qw_1036 : qw 1036 = u_lay RX10 TX10 19 := rfl
theorem qw_1037 : qw 1037 = u_lay RX10 TX10 20 := rfl
theorem qw_1038 : qw 1038 = u_lay RX10 TX10 21 := rfl
theorem qw_1039 : qw 1039 = u_lay RX10 TX10 22 := rfl
theorem qw_1040 : qw 1040 = u_lay RX10 TX10 23 := rfl
theorem qw_1041 : qw 1041 = u_lay RX10 TX10 24 := rfl
theorem qw_1042 : qw 1042 = u_lay RX10 TX10 25 := rfl
theorem qw_1043 : qw 1043 = u_lay RX10 TX10 26 := rfl
theorem qw_1044 : qw 1044 = u_lay RX10 TX10 27 := rfl
theorem qw_1045 : qw 1045 = u_lay RX10 TX10 28 := rfl
theorem qw_1046 : qw 1046 = u_lay RX10 TX10 29 := rfl
theorem qw_1047 : qw 1047 = u_lay RX10 TX10 30 := rfl
theorem qw_1048 : qw 1048 = u_lay RX10 TX10 31 := rfl
theorem qw_1049 : qw 1049 = u_lay RX10 TX10 32 := rfl
theorem qw_1050 : qw 1050 = u_lay RX10 TX10 33 := rfl
theorem qw_1051 : qw 1051 = u_lay RX9 TX9 0 := rfl
theorem qw_1052 : qw 1052 = u_lay RX9 TX9 1 := rfl
theorem qw_1053 : qw 1053 = u_lay RX9 TX9 2 := rfl
theorem qw_1054 : qw 1054 = u_lay RX9 TX9 3 := rfl
theorem qw_1055 : qw 1055 = u_lay RX9 TX9 4 := rfl
theorem qw_1056 : qw 1056 = u_lay RX9 TX9 5 := rfl
theorem qw_1057 : qw 1057 = u_lay RX9 TX9 6 := rfl
theorem qw_1058 : qw 1058 = u_lay RX9 TX9 7 := rfl
theorem qw_1059 : qw 1059 = u_lay RX9 TX9 8 := rfl
theorem qw_1060 : qw 1060 = u_lay RX9 TX9 9 := rfl
theorem qw_1061 : qw 1061 = u_lay RX9 TX9 10 := rfl
theorem qw_1062 : qw 1062 = u_lay RX9 TX9 11 := rfl
theorem qw_1063 : qw 1063 = u_lay RX9 TX9 12 := rfl
theorem qw_1064 : qw 1064 = u_lay RX9 TX9 13 := rfl
theorem qw_1065 : qw 1065 = u_lay RX9 TX9 14 := rfl
theorem qw_1066 : qw 1066 = u_lay RX9 TX9 15 := rfl
theorem qw_1067 : qw 1067 = u_lay RX9 TX9 16 := rfl
theorem qw_1068 : qw 1068 = u_lay RX9 TX9 17 := rfl
theorem qw_1069 : qw 1069 = u_lay RX8 TX8 0 := rfl
theorem qw_1070 : qw 1070 = u_lay RX8 TX8 1 := rfl
theorem qw_1071 : qw 1071 = u_lay RX8 TX8 2 := rfl
theorem qw_1072 : qw 1072 = u_lay RX8 TX8 3 := rfl
theorem qw_1073 : qw 1073 = u_lay RX7 TX7 0 := rfl
theorem qw_1074 : qw 1074 = u_lay RX7 TX7 1 := rfl
theorem qw_1075 : qw 1075 = u_lay RX7 TX7 2 := rfl
theorem qw_1076 : qw 1076 = u_lay RX6 TX6 0 := rfl
theorem qw_1077 : qw 1077 = u_lay RX6 TX6 1 := rfl
theorem qw_1078 : qw 1078 = u_lay RX5 TX5 0 := rfl
theorem qw_1079 : qw 1079 = u_lay RX5 TX5 1 := rfl
theorem qw_1080 : qw 1080 = u_lay RX5 TX5 2 := rfl
theorem qw_1081 : qw 1081 = u_lay RX5 TX5 3 := rfl
theorem qw_1082 : qw 1082 = u_lay RX4 TX4 0 := rfl
theorem qw_1083 : qw 1083 = u_lay RX4 TX4 1 := rfl
theorem qw_1084 : qw 1084 = u_lay RX3 TX3 0 := rfl
theorem qw_1085 : qw 1085 = u_lay RX3 TX3 1 := rfl
theorem qw_1086 : qw 1086 = u_lay RX2 TX2 0 := rfl
theorem qw_1087 : qw 1087 = u_lay RX2 TX2 1 := rfl
theorem qw_1088 : qw 1088 = u_lay RX1 TX1 0 := rfl
theorem qw_1089 : qw 1089 = u_lay RX1 TX1 1 := rfl
theorem qw_1090 : qw 1090 = u_lay RX1 TX1 2 := rfl
theorem qw_1091 : qw 1091 = u_lay RX0 TX0 0 := rfl
theorem qw_1092 : qw 1092 = u_lay RX0 TX0 1 := rfl
theorem qw_1093 : qw 1093 = u_lay RX0 TX0 2 := rfl
theorem qw_1094 : qw 1094 = u_lay RX0 TX0 3 := rfl
