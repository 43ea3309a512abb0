/-! LINKS of calls; the layout: facts of the world's form -/
theorem al_OneBreath_Tape_17 : aLk "OneBreath$Tape" 17 mX8_init 0 := ⟨wd_178, wd_176, wd_140, by decide +kernel⟩
theorem al_OneBreath_Tongue_42 : aLk "OneBreath$Tongue" 42 mX8_empty 0 := ⟨wd_184, wd_181, wd_140, by decide +kernel⟩
theorem al_OneBreath_Tongue_64 : aLk "OneBreath$Tongue" 64 mJ7_fill_53178 2 := ⟨wd_187, wd_185, wd_141, by decide +kernel⟩
theorem al_OneBreath_18 : aLk "OneBreath" 18 mX8_init 0 := ⟨wd_178, wd_288, wd_140, by decide +kernel⟩
theorem al_OneBreath_49 : aLk "OneBreath" 49 mX1_init 1 := ⟨wd_340, wd_338, wd_145, by decide +kernel⟩
theorem al_OneBreath_61 : aLk "OneBreath" 61 mX4_init 2 := ⟨wd_361, wd_359, wd_146, by decide +kernel⟩
theorem al_OneBreath_77 : aLk "OneBreath" 77 mX3_init 2 := ⟨wd_383, wd_381, wd_148, by decide +kernel⟩
theorem al_OneBreath_Mender_52 : aLk "OneBreath$Mender" 52 mX3_forget 0 := ⟨wd_416, wd_413, wd_148, by decide +kernel⟩
theorem al_OneBreath_Mender_55 : aLk "OneBreath$Mender" 55 mJ7_fill_53178 2 := ⟨wd_187, wd_417, wd_141, by decide +kernel⟩
theorem al_OneBreath_86 : aLk "OneBreath" 86 mX0_init 1 := ⟨wd_444, wd_442, wd_150, by decide +kernel⟩
theorem al_OneBreath_107 : aLk "OneBreath" 107 mX7_put 1 := ⟨wd_482, wd_479, wd_139, by decide +kernel⟩
theorem al_OneBreath_111 : aLk "OneBreath" 111 mX7_holds 1 := ⟨wd_490, wd_487, wd_139, by decide +kernel⟩
theorem al_OneBreath_115 : aLk "OneBreath" 115 mX7_readTongue 1 := ⟨wd_494, wd_491, wd_139, by decide +kernel⟩
theorem al_OneBreath_Tape_42 : aLk "OneBreath$Tape" 42 mJ9_min_7cf53 2 := ⟨wd_497, wd_495, wd_152, by decide +kernel⟩
theorem al_OneBreath_Tape_55 : aLk "OneBreath$Tape" 55 mX8_empty 0 := ⟨wd_184, wd_498, wd_140, by decide +kernel⟩
theorem al_OneBreath_Tape_58 : aLk "OneBreath$Tape" 58 mX7_advance 0 := ⟨wd_501, wd_499, wd_139, by decide +kernel⟩
theorem al_OneBreath_Tape_64 : aLk "OneBreath$Tape" 64 mX7_readLine 0 := ⟨wd_504, wd_502, wd_139, by decide +kernel⟩
theorem al_OneBreath_Tape_74 : aLk "OneBreath$Tape" 74 mX7_fail 1 := ⟨wd_507, wd_505, wd_139, by decide +kernel⟩
theorem al_OneBreath_Tape_80 : aLk "OneBreath$Tape" 80 mX7_isNamed 1 := ⟨wd_510, wd_508, wd_139, by decide +kernel⟩
theorem al_OneBreath_Tape_187 : aLk "OneBreath$Tape" 187 mJ0_length_8abf5 0 := ⟨wd_514, wd_511, wd_153, by decide +kernel⟩
theorem al_java_lang_String_335 : aLk "java/lang/String" 335 mJ0_coder_7d493 0 := ⟨wd_518, wd_515, wd_153, by decide +kernel⟩
theorem al_OneBreath_Tape_191 : aLk "OneBreath$Tape" 191 mJ0_charAt_5068e 1 := ⟨wd_523, wd_520, wd_153, by decide +kernel⟩
theorem al_java_lang_String_492 : aLk "java/lang/String" 492 mJ0_isLatin1_aae02 0 := ⟨wd_527, wd_524, wd_153, by decide +kernel⟩
theorem al_java_lang_String_495 : aLk "java/lang/String" 495 mJ1_charAt_3b067 2 := ⟨wd_530, wd_528, wd_154, by decide +kernel⟩
theorem al_java_lang_StringLatin1_9 : aLk "java/lang/StringLatin1" 9 mJ0_checkIndex_df160 2 := ⟨wd_533, wd_531, wd_153, by decide +kernel⟩
theorem al_java_lang_String_1059 : aLk "java/lang/String" 1059 mJ3_checkIndex_8e157 3 := ⟨wd_537, wd_535, wd_155, by decide +kernel⟩
theorem al_java_lang_StringUTF16_414 : aLk "java/lang/StringUTF16" 414 mJ0_checkIndex_df160 2 := ⟨wd_533, wd_547, wd_153, by decide +kernel⟩
theorem al_OneBreath_Tape_84 : aLk "OneBreath$Tape" 84 mX7_readSounds 0 := ⟨wd_556, wd_554, wd_139, by decide +kernel⟩
theorem al_OneBreath_Tape_67 : aLk "OneBreath$Tape" 67 mX7_wants 1 := ⟨wd_559, wd_557, wd_139, by decide +kernel⟩
theorem al_OneBreath_Tape_122 : aLk "OneBreath$Tape" 122 mX7_hasTwice 0 := ⟨wd_562, wd_560, wd_139, by decide +kernel⟩
theorem al_OneBreath_Tape_89 : aLk "OneBreath$Tape" 89 mX7_readNever 0 := ⟨wd_565, wd_563, wd_139, by decide +kernel⟩
theorem al_OneBreath_Tape_164 : aLk "OneBreath$Tape" 164 mX7_wantNumber 1 := ⟨wd_568, wd_566, wd_139, by decide +kernel⟩
theorem al_OneBreath_Tape_94 : aLk "OneBreath$Tape" 94 mX7_readLast 0 := ⟨wd_571, wd_569, wd_139, by decide +kernel⟩
theorem al_OneBreath_Tape_101 : aLk "OneBreath$Tape" 101 mX7_readOpen 0 := ⟨wd_574, wd_572, wd_139, by decide +kernel⟩
theorem al_OneBreath_Tape_129 : aLk "OneBreath$Tape" 129 mX7_isOfSounds 0 := ⟨wd_577, wd_575, wd_139, by decide +kernel⟩
theorem al_OneBreath_Tape_34 : aLk "OneBreath$Tape" 34 mX8_findSound 1 := ⟨wd_581, wd_578, wd_140, by decide +kernel⟩
theorem al_OneBreath_Tape_106 : aLk "OneBreath$Tape" 106 mX7_readLike 0 := ⟨wd_584, wd_582, wd_139, by decide +kernel⟩
theorem al_OneBreath_Tape_134 : aLk "OneBreath$Tape" 134 mX7_wantSound 0 := ⟨wd_587, wd_585, wd_139, by decide +kernel⟩
theorem al_OneBreath_Tape_111 : aLk "OneBreath$Tape" 111 mX7_readWord 0 := ⟨wd_590, wd_588, wd_139, by decide +kernel⟩
theorem al_OneBreath_Tape_148 : aLk "OneBreath$Tape" 148 mX8_findWord 2 := ⟨wd_594, wd_591, wd_140, by decide +kernel⟩
theorem al_OneBreath_Tongue_76 : aLk "OneBreath$Tongue" 76 mX8_begins 3 := ⟨wd_598, wd_595, wd_140, by decide +kernel⟩
theorem al_OneBreath_Tape_157 : aLk "OneBreath$Tape" 157 mX7_wantName 1 := ⟨wd_601, wd_599, wd_139, by decide +kernel⟩
theorem al_OneBreath_Tape_116 : aLk "OneBreath$Tape" 116 mX7_readShape 0 := ⟨wd_604, wd_602, wd_139, by decide +kernel⟩
theorem al_OneBreath_124 : aLk "OneBreath" 124 mX8_become 1 := ⟨wd_608, wd_605, wd_140, by decide +kernel⟩
theorem al_OneBreath_130 : aLk "OneBreath" 130 mX11_forgetTongue 0 := ⟨wd_614, wd_612, wd_138, by decide +kernel⟩
theorem al_OneBreath_230 : aLk "OneBreath" 230 mX1_forget 0 := ⟨wd_618, wd_615, wd_145, by decide +kernel⟩
theorem al_OneBreath_386 : aLk "OneBreath" 386 mX3_forget 0 := ⟨wd_416, wd_619, wd_148, by decide +kernel⟩
theorem al_OneBreath_153 : aLk "OneBreath" 153 mX8_hasWord 1 := ⟨wd_635, wd_632, wd_140, by decide +kernel⟩
theorem al_OneBreath_179 : aLk "OneBreath" 179 mX11_isKind 1 := ⟨wd_646, wd_644, wd_138, by decide +kernel⟩
theorem al_OneBreath_188 : aLk "OneBreath" 188 mX7_spellInto 3 := ⟨wd_658, wd_655, wd_139, by decide +kernel⟩
theorem al_OneBreath_Tape_38 : aLk "OneBreath$Tape" 38 mX6_add 1 := ⟨wd_662, wd_659, wd_142, by decide +kernel⟩
theorem al_OneBreath_195 : aLk "OneBreath" 195 mX8_findWord 2 := ⟨wd_594, wd_663, wd_140, by decide +kernel⟩
theorem al_OneBreath_199 : aLk "OneBreath" 199 mX2_toWord 4 := ⟨wd_671, wd_668, wd_147, by decide +kernel⟩
theorem al_OneBreath_Measure_27 : aLk "OneBreath$Measure" 27 mX2_leastCost 4 := ⟨wd_674, wd_672, wd_147, by decide +kernel⟩
theorem al_OneBreath_Measure_44 : aLk "OneBreath$Measure" 44 mX2_costInstead 3 := ⟨wd_677, wd_675, wd_147, by decide +kernel⟩
theorem al_OneBreath_Measure_48 : aLk "OneBreath$Measure" 48 mJ9_min_7cf53 2 := ⟨wd_497, wd_678, wd_152, by decide +kernel⟩
theorem al_OneBreath_206 : aLk "OneBreath" 206 mX5_isRow 1 := ⟨wd_690, wd_687, wd_143, by decide +kernel⟩
theorem al_OneBreath_209 : aLk "OneBreath" 209 mX5_isMissing 1 := ⟨wd_694, wd_691, wd_143, by decide +kernel⟩
theorem al_OneBreath_212 : aLk "OneBreath" 212 mX10_hear 3 := ⟨wd_698, wd_695, wd_144, by decide +kernel⟩
theorem al_OneBreath_Verdict_37 : aLk "OneBreath$Verdict" 37 mX8_hasWord 1 := ⟨wd_635, wd_699, wd_140, by decide +kernel⟩
theorem al_OneBreath_Verdict_43 : aLk "OneBreath$Verdict" 43 mX8_mayFollow 2 := ⟨wd_703, wd_700, wd_140, by decide +kernel⟩
theorem al_OneBreath_Verdict_55 : aLk "OneBreath$Verdict" 55 mX8_mayEnd 1 := ⟨wd_707, wd_704, wd_140, by decide +kernel⟩
theorem al_OneBreath_226 : aLk "OneBreath" 226 mX10_sayInto 2 := ⟨wd_715, wd_712, wd_144, by decide +kernel⟩
theorem al_OneBreath_Verdict_72 : aLk "OneBreath$Verdict" 72 mX6_add 1 := ⟨wd_662, wd_716, wd_142, by decide +kernel⟩
theorem al_OneBreath_233 : aLk "OneBreath" 233 mX6_become 1 := ⟨wd_724, wd_721, wd_142, by decide +kernel⟩
theorem al_OneBreath_236 : aLk "OneBreath" 236 mX1_lay 1 := ⟨wd_737, wd_734, wd_145, by decide +kernel⟩
theorem al_OneBreath_Cutter_37 : aLk "OneBreath$Cutter" 37 mX1_forget 0 := ⟨wd_618, wd_738, wd_145, by decide +kernel⟩
theorem al_OneBreath_Cutter_51 : aLk "OneBreath$Cutter" 51 mX1_missesAt 3 := ⟨wd_741, wd_739, wd_145, by decide +kernel⟩
theorem al_OneBreath_239 : aLk "OneBreath" 239 mX1_countWays 1 := ⟨wd_745, wd_742, wd_145, by decide +kernel⟩
theorem al_OneBreath_Cutter_77 : aLk "OneBreath$Cutter" 77 mX1_wayIndex 3 := ⟨wd_748, wd_746, wd_145, by decide +kernel⟩
theorem al_OneBreath_Cutter_81 : aLk "OneBreath$Cutter" 81 mX1_waysFrom 3 := ⟨wd_751, wd_749, wd_145, by decide +kernel⟩
theorem al_OneBreath_Cutter_85 : aLk "OneBreath$Cutter" 85 mX8_mayEnd 1 := ⟨wd_707, wd_752, wd_140, by decide +kernel⟩
theorem al_OneBreath_Cutter_89 : aLk "OneBreath$Cutter" 89 mX8_mayFollow 2 := ⟨wd_703, wd_753, wd_140, by decide +kernel⟩
theorem al_OneBreath_243 : aLk "OneBreath" 243 mX11_isCut 1 := ⟨wd_761, wd_759, wd_138, by decide +kernel⟩
theorem al_OneBreath_246 : aLk "OneBreath" 246 mX11_cutBreath 1 := ⟨wd_764, wd_762, wd_138, by decide +kernel⟩
theorem al_OneBreath_316 : aLk "OneBreath" 316 mX1_choose 1 := ⟨wd_768, wd_765, wd_145, by decide +kernel⟩
theorem al_OneBreath_Cutter_101 : aLk "OneBreath$Cutter" 101 mX1_leastFrom 2 := ⟨wd_771, wd_769, wd_145, by decide +kernel⟩
theorem al_OneBreath_Cutter_115 : aLk "OneBreath$Cutter" 115 mX1_priceThrough 3 := ⟨wd_775, wd_773, wd_145, by decide +kernel⟩
theorem al_OneBreath_Cutter_68 : aLk "OneBreath$Cutter" 68 mJ9_min_7cf53 2 := ⟨wd_497, wd_776, wd_152, by decide +kernel⟩
theorem al_OneBreath_Cutter_107 : aLk "OneBreath$Cutter" 107 mX1_chooseFrom 2 := ⟨wd_779, wd_777, wd_145, by decide +kernel⟩
theorem al_OneBreath_Cutter_121 : aLk "OneBreath$Cutter" 121 mX1_choosePut 2 := ⟨wd_782, wd_780, wd_145, by decide +kernel⟩
theorem al_OneBreath_Cutter_111 : aLk "OneBreath$Cutter" 111 mX1_turnToSecond 0 := ⟨wd_785, wd_783, wd_145, by decide +kernel⟩
theorem al_OneBreath_252 : aLk "OneBreath" 252 mX1_chosenAt 1 := ⟨wd_789, wd_786, wd_145, by decide +kernel⟩
theorem al_OneBreath_255 : aLk "OneBreath" 255 mX1_chosenMisses 0 := ⟨wd_797, wd_794, wd_145, by decide +kernel⟩
theorem al_OneBreath_259 : aLk "OneBreath" 259 mX1_breakBehind 1 := ⟨wd_805, wd_802, wd_145, by decide +kernel⟩
theorem al_OneBreath_Cutter_74 : aLk "OneBreath$Cutter" 74 mJ9_max_7cf53 2 := ⟨wd_808, wd_806, wd_152, by decide +kernel⟩
theorem al_OneBreath_262 : aLk "OneBreath" 262 mX3_leastUnsure 1 := ⟨wd_816, wd_813, wd_148, by decide +kernel⟩
theorem al_OneBreath_Mender_75 : aLk "OneBreath$Mender" 75 mX9_load 2 := ⟨wd_820, wd_817, wd_149, by decide +kernel⟩
theorem al_OneBreath_Twins_78 : aLk "OneBreath$Twins" 78 mX9_put 4 := ⟨wd_825, wd_822, wd_149, by decide +kernel⟩
theorem al_OneBreath_Mender_79 : aLk "OneBreath$Mender" 79 mX9_shortest 1 := ⟨wd_829, wd_826, wd_149, by decide +kernel⟩
theorem al_OneBreath_Twins_82 : aLk "OneBreath$Twins" 82 mX9_begin 1 := ⟨wd_832, wd_830, wd_149, by decide +kernel⟩
theorem al_OneBreath_Twins_113 : aLk "OneBreath$Twins" 113 mJ7_fill_bad5a 4 := ⟨wd_835, wd_833, wd_141, by decide +kernel⟩
theorem al_java_util_Arrays_13 : aLk "java/util/Arrays" 13 mJ7_rangeCheck_23922 3 := ⟨wd_838, wd_836, wd_141, by decide +kernel⟩
theorem al_OneBreath_Twins_119 : aLk "OneBreath$Twins" 119 mJ7_fill_53178 2 := ⟨wd_187, wd_839, wd_141, by decide +kernel⟩
theorem al_OneBreath_Twins_122 : aLk "OneBreath$Twins" 122 mX9_allow 1 := ⟨wd_842, wd_840, wd_149, by decide +kernel⟩
theorem al_OneBreath_Twins_125 : aLk "OneBreath$Twins" 125 mX9_oddState 4 := ⟨wd_845, wd_843, wd_149, by decide +kernel⟩
theorem al_OneBreath_Twins_129 : aLk "OneBreath$Twins" 129 mX9_push 2 := ⟨wd_848, wd_846, wd_149, by decide +kernel⟩
theorem al_OneBreath_Twins_92 : aLk "OneBreath$Twins" 92 mX9_pop 1 := ⟨wd_851, wd_849, wd_149, by decide +kernel⟩
theorem al_OneBreath_Twins_132 : aLk "OneBreath$Twins" 132 mJ13_lowestOneBit_067f4 1 := ⟨wd_854, wd_852, wd_159, by decide +kernel⟩
theorem al_OneBreath_Twins_140 : aLk "OneBreath$Twins" 140 mJ13_numberOfTrailingZeros_95d88 1 := ⟨wd_858, wd_856, wd_159, by decide +kernel⟩
theorem al_java_lang_Long_311 : aLk "java/lang/Long" 311 mJ6_numberOfTrailingZeros_0f7a4 1 := ⟨wd_861, wd_859, wd_160, by decide +kernel⟩
theorem al_OneBreath_Twins_96 : aLk "OneBreath$Twins" 96 mX9_isLast 1 := ⟨wd_865, wd_863, wd_149, by decide +kernel⟩
theorem al_OneBreath_Twins_144 : aLk "OneBreath$Twins" 144 mX9_isEven 1 := ⟨wd_868, wd_866, wd_149, by decide +kernel⟩
theorem al_OneBreath_Twins_100 : aLk "OneBreath$Twins" 100 mX9_visit 2 := ⟨wd_871, wd_869, wd_149, by decide +kernel⟩
theorem al_OneBreath_Twins_147 : aLk "OneBreath$Twins" 147 mJ6_numberOfTrailingZeros_0f7a4 1 := ⟨wd_861, wd_872, wd_160, by decide +kernel⟩
theorem al_OneBreath_Twins_151 : aLk "OneBreath$Twins" 151 mX9_nextWords 1 := ⟨wd_875, wd_873, wd_149, by decide +kernel⟩
theorem al_OneBreath_Twins_158 : aLk "OneBreath$Twins" 158 mX9_kindBehind 1 := ⟨wd_878, wd_876, wd_149, by decide +kernel⟩
theorem al_OneBreath_Twins_161 : aLk "OneBreath$Twins" 161 mX9_wordOut 1 := ⟨wd_881, wd_879, wd_149, by decide +kernel⟩
theorem al_OneBreath_Twins_154 : aLk "OneBreath$Twins" 154 mX9_meet 3 := ⟨wd_884, wd_882, wd_149, by decide +kernel⟩
theorem al_OneBreath_Twins_164 : aLk "OneBreath$Twins" 164 mX9_lengthOut 1 := ⟨wd_887, wd_885, wd_149, by decide +kernel⟩
theorem al_OneBreath_Twins_167 : aLk "OneBreath$Twins" 167 mJ9_min_7cf53 2 := ⟨wd_497, wd_888, wd_152, by decide +kernel⟩
theorem al_OneBreath_Twins_173 : aLk "OneBreath$Twins" 173 mX9_joined 5 := ⟨wd_891, wd_889, wd_149, by decide +kernel⟩
theorem al_OneBreath_Twins_177 : aLk "OneBreath$Twins" 177 mX9_evenState 3 := ⟨wd_894, wd_892, wd_149, by decide +kernel⟩
theorem al_OneBreath_265 : aLk "OneBreath" 265 mX3_unsureSound 1 := ⟨wd_902, wd_899, wd_148, by decide +kernel⟩
theorem al_OneBreath_Mender_83 : aLk "OneBreath$Mender" 83 mX9_markUseful 1 := ⟨wd_906, wd_903, wd_149, by decide +kernel⟩
theorem al_OneBreath_Twins_181 : aLk "OneBreath$Twins" 181 mJ7_fill_031fb 2 := ⟨wd_909, wd_907, wd_141, by decide +kernel⟩
theorem al_OneBreath_Twins_184 : aLk "OneBreath$Twins" 184 mX9_leadsToEnd 2 := ⟨wd_912, wd_910, wd_149, by decide +kernel⟩
theorem al_OneBreath_Twins_203 : aLk "OneBreath$Twins" 203 mX9_evenLeadsOn 1 := ⟨wd_915, wd_913, wd_149, by decide +kernel⟩
theorem al_OneBreath_Twins_209 : aLk "OneBreath$Twins" 209 mX9_isUseful 2 := ⟨wd_918, wd_916, wd_149, by decide +kernel⟩
theorem al_OneBreath_Twins_206 : aLk "OneBreath$Twins" 206 mX9_plainMeet 2 := ⟨wd_921, wd_919, wd_149, by decide +kernel⟩
theorem al_OneBreath_Mender_87 : aLk "OneBreath$Mender" 87 mX9_firstLine 2 := ⟨wd_925, wd_922, wd_149, by decide +kernel⟩
theorem al_OneBreath_Twins_188 : aLk "OneBreath$Twins" 188 mX9_take 2 := ⟨wd_928, wd_926, wd_149, by decide +kernel⟩
theorem al_OneBreath_Twins_191 : aLk "OneBreath$Twins" 191 mX9_wakeFromEven 1 := ⟨wd_931, wd_929, wd_149, by decide +kernel⟩
theorem al_OneBreath_Twins_194 : aLk "OneBreath$Twins" 194 mX9_leastSoundAt 1 := ⟨wd_934, wd_932, wd_149, by decide +kernel⟩
theorem al_OneBreath_Twins_197 : aLk "OneBreath$Twins" 197 mX9_toldAt 2 := ⟨wd_937, wd_935, wd_149, by decide +kernel⟩
theorem al_OneBreath_Twins_200 : aLk "OneBreath$Twins" 200 mX9_wakeNext 2 := ⟨wd_940, wd_938, wd_149, by decide +kernel⟩
theorem al_OneBreath_268 : aLk "OneBreath" 268 mX3_findAdded 1 := ⟨wd_952, wd_949, wd_148, by decide +kernel⟩
theorem al_OneBreath_Mender_103 : aLk "OneBreath$Mender" 103 mX3_spellNumber 2 := ⟨wd_955, wd_953, wd_148, by decide +kernel⟩
theorem al_OneBreath_Mender_122 : aLk "OneBreath$Mender" 122 mJ9_max_7cf53 2 := ⟨wd_808, wd_956, wd_152, by decide +kernel⟩
theorem al_OneBreath_Mender_128 : aLk "OneBreath$Mender" 128 mJ9_floorMod_7cf53 2 := ⟨wd_959, wd_957, wd_152, by decide +kernel⟩
theorem al_OneBreath_Mender_131 : aLk "OneBreath$Mender" 131 mJ9_floorDiv_7cf53 2 := ⟨wd_962, wd_960, wd_152, by decide +kernel⟩
theorem al_OneBreath_Mender_107 : aLk "OneBreath$Mender" 107 mX3_leastUnlike 0 := ⟨wd_965, wd_963, wd_148, by decide +kernel⟩
theorem al_OneBreath_Mender_137 : aLk "OneBreath$Mender" 137 mX2_toWord 4 := ⟨wd_671, wd_966, wd_147, by decide +kernel⟩
theorem al_OneBreath_Mender_111 : aLk "OneBreath$Mender" 111 mX3_mayBeWord 0 := ⟨wd_969, wd_967, wd_148, by decide +kernel⟩
theorem al_OneBreath_Mender_143 : aLk "OneBreath$Mender" 143 mX8_findWord 2 := ⟨wd_594, wd_970, wd_140, by decide +kernel⟩
theorem al_OneBreath_Mender_91 : aLk "OneBreath$Mender" 91 mX9_putOneMore 3 := ⟨wd_974, wd_971, wd_149, by decide +kernel⟩
theorem al_OneBreath_Mender_118 : aLk "OneBreath$Mender" 118 mX6_become 1 := ⟨wd_724, wd_975, wd_142, by decide +kernel⟩
theorem al_OneBreath_277 : aLk "OneBreath" 277 mX3_isSureWith 4 := ⟨wd_983, wd_980, wd_148, by decide +kernel⟩
theorem al_OneBreath_281 : aLk "OneBreath" 281 mX3_leftOut 0 := ⟨wd_991, wd_988, wd_148, by decide +kernel⟩
theorem al_OneBreath_Mender_159 : aLk "OneBreath$Mender" 159 mJ6_bitCount_0f7a4 1 := ⟨wd_994, wd_992, wd_160, by decide +kernel⟩
theorem al_OneBreath_Mender_164 : aLk "OneBreath$Mender" 164 mX9_leaveOut 1 := ⟨wd_1001, wd_998, wd_149, by decide +kernel⟩
theorem al_OneBreath_284 : aLk "OneBreath" 284 mJ6_bitCount_0f7a4 1 := ⟨wd_994, wd_1002, wd_160, by decide +kernel⟩
theorem al_OneBreath_289 : aLk "OneBreath" 289 mX3_findChange 0 := ⟨wd_1010, wd_1007, wd_148, by decide +kernel⟩
theorem al_OneBreath_Mender_179 : aLk "OneBreath$Mender" 179 mX3_isThereWith 3 := ⟨wd_1013, wd_1011, wd_148, by decide +kernel⟩
theorem al_OneBreath_Mender_183 : aLk "OneBreath$Mender" 183 mX9_putSound 3 := ⟨wd_1018, wd_1015, wd_149, by decide +kernel⟩
theorem al_OneBreath_301 : aLk "OneBreath" 301 mX3_stops 0 := ⟨wd_1026, wd_1023, wd_148, by decide +kernel⟩
theorem al_OneBreath_304 : aLk "OneBreath" 304 mX0_firstBegunBy 1 := ⟨wd_1034, wd_1031, wd_150, by decide +kernel⟩
theorem al_OneBreath_Census_41 : aLk "OneBreath$Census" 41 mX8_begins 3 := ⟨wd_598, wd_1035, wd_140, by decide +kernel⟩
theorem al_OneBreath_307 : aLk "OneBreath" 307 mX2_toShape 4 := ⟨wd_1043, wd_1040, wd_147, by decide +kernel⟩
theorem al_OneBreath_310 : aLk "OneBreath" 310 mX0_leastTalk 1 := ⟨wd_1055, wd_1052, wd_150, by decide +kernel⟩
theorem al_OneBreath_Census_51 : aLk "OneBreath$Census" 51 mX0_addWeight 1 := ⟨wd_1058, wd_1056, wd_150, by decide +kernel⟩
theorem al_OneBreath_Census_55 : aLk "OneBreath$Census" 55 mJ9_max_7cf53 2 := ⟨wd_808, wd_1059, wd_152, by decide +kernel⟩
theorem al_OneBreath_Census_61 : aLk "OneBreath$Census" 61 mX0_takeLeast 0 := ⟨wd_1062, wd_1060, wd_150, by decide +kernel⟩
theorem al_OneBreath_313 : aLk "OneBreath" 313 mX1_layAny 1 := ⟨wd_1070, wd_1067, wd_145, by decide +kernel⟩
theorem al_OneBreath_319 : aLk "OneBreath" 319 mX1_chosenUses 0 := ⟨wd_1078, wd_1075, wd_145, by decide +kernel⟩
theorem al_OneBreath_322 : aLk "OneBreath" 322 mX0_measureSentences 0 := ⟨wd_1086, wd_1083, wd_150, by decide +kernel⟩
theorem al_OneBreath_Census_72 : aLk "OneBreath$Census" 72 mJ7_fill_53178 2 := ⟨wd_187, wd_1087, wd_141, by decide +kernel⟩
theorem al_OneBreath_Census_87 : aLk "OneBreath$Census" 87 mX0_mostEnding 0 := ⟨wd_1091, wd_1089, wd_150, by decide +kernel⟩
theorem al_OneBreath_Census_93 : aLk "OneBreath$Census" 93 mX8_mayEnd 1 := ⟨wd_707, wd_1092, wd_140, by decide +kernel⟩
theorem al_OneBreath_Census_90 : aLk "OneBreath$Census" 90 mX0_goOn 0 := ⟨wd_1095, wd_1093, wd_150, by decide +kernel⟩
theorem al_OneBreath_331 : aLk "OneBreath" 331 mX11_hearForNoise 2 := ⟨wd_1106, wd_1104, wd_138, by decide +kernel⟩
theorem al_OneBreath_338 : aLk "OneBreath" 338 mX4_carry 2 := ⟨wd_1110, wd_1107, wd_146, by decide +kernel⟩
theorem al_OneBreath_Noise_47 : aLk "OneBreath$Noise" 47 mX4_draw 0 := ⟨wd_1113, wd_1111, wd_146, by decide +kernel⟩
theorem al_OneBreath_Noise_51 : aLk "OneBreath$Noise" 51 mJ6_bitCount_0f7a4 1 := ⟨wd_994, wd_1115, wd_160, by decide +kernel⟩
theorem al_OneBreath_Noise_57 : aLk "OneBreath$Noise" 57 mX4_pick 2 := ⟨wd_1118, wd_1116, wd_146, by decide +kernel⟩
theorem al_OneBreath_Noise_61 : aLk "OneBreath$Noise" 61 mX6_add 1 := ⟨wd_662, wd_1119, wd_142, by decide +kernel⟩
theorem al_OneBreath_345 : aLk "OneBreath" 345 mX4_isUnderstood 1 := ⟨wd_1123, wd_1120, wd_146, by decide +kernel⟩
theorem al_OneBreath_Noise_65 : aLk "OneBreath$Noise" 65 mX1_lay 1 := ⟨wd_737, wd_1124, wd_145, by decide +kernel⟩
theorem al_OneBreath_Noise_71 : aLk "OneBreath$Noise" 71 mX1_choose 1 := ⟨wd_768, wd_1125, wd_145, by decide +kernel⟩
theorem al_OneBreath_352 : aLk "OneBreath" 352 mX0_countBeginnings 0 := ⟨wd_1137, wd_1134, wd_150, by decide +kernel⟩
theorem al_OneBreath_Census_100 : aLk "OneBreath$Census" 100 mX0_isNewBeginning 2 := ⟨wd_1140, wd_1138, wd_150, by decide +kernel⟩
theorem al_OneBreath_355 : aLk "OneBreath" 355 mX0_findLimb 1 := ⟨wd_1148, wd_1145, wd_150, by decide +kernel⟩
theorem al_OneBreath_Census_110 : aLk "OneBreath$Census" 110 mX0_isAheadOfLimb 1 := ⟨wd_1151, wd_1149, wd_150, by decide +kernel⟩
theorem al_OneBreath_Census_113 : aLk "OneBreath$Census" 113 mX0_countSharing 2 := ⟨wd_1155, wd_1152, wd_150, by decide +kernel⟩
theorem al_OneBreath_364 : aLk "OneBreath" 364 mX0_countSharing 2 := ⟨wd_1155, wd_1156, wd_150, by decide +kernel⟩
theorem al_OneBreath_367 : aLk "OneBreath" 367 mX5_renew 3 := ⟨wd_1164, wd_1161, wd_143, by decide +kernel⟩
theorem al_OneBreath_Rows_23 : aLk "OneBreath$Rows" 23 mJ7_fill_d0a16 2 := ⟨wd_1167, wd_1165, wd_141, by decide +kernel⟩
theorem al_OneBreath_380 : aLk "OneBreath" 380 mX5_put 3 := ⟨wd_1178, wd_1175, wd_143, by decide +kernel⟩
theorem al_OneBreath_Rows_29 : aLk "OneBreath$Rows" 29 mX5_cutTo 2 := ⟨wd_1181, wd_1179, wd_143, by decide +kernel⟩
theorem al_OneBreathModel_176 : aLk "OneBreathModel" 176 mX12_within 3 := ⟨wd_1270, wd_1268, wd_151, by decide +kernel⟩
theorem al_OneBreathModel_166 : aLk "OneBreathModel" 166 mX12_next 0 := ⟨wd_1273, wd_1271, wd_151, by decide +kernel⟩
theorem al_OneBreathModel_137 : aLk "OneBreathModel" 137 mX12_see 1 := ⟨wd_1276, wd_1274, wd_151, by decide +kernel⟩
theorem al_OneBreathModel_144 : aLk "OneBreathModel" 144 mX12_isSmall 1 := ⟨wd_1279, wd_1277, wd_151, by decide +kernel⟩
theorem al_OneBreathModel_148 : aLk "OneBreathModel" 148 mX12_keyAt 0 := ⟨wd_1282, wd_1280, wd_151, by decide +kernel⟩
theorem al_OneBreathModel_121 : aLk "OneBreathModel" 121 mJ0_length_8abf5 0 := ⟨wd_514, wd_1283, wd_153, by decide +kernel⟩
theorem al_OneBreathModel_127 : aLk "OneBreathModel" 127 mJ0_charAt_5068e 1 := ⟨wd_523, wd_1284, wd_153, by decide +kernel⟩
theorem al_OneBreathModel_151 : aLk "OneBreathModel" 151 mX12_isDigit 1 := ⟨wd_1287, wd_1285, wd_151, by decide +kernel⟩
theorem al_OneBreathModel_224 : aLk "OneBreathModel" 224 mX12_readLine 0 := ⟨wd_1290, wd_1288, wd_151, by decide +kernel⟩
theorem al_OneBreathModel_163 : aLk "OneBreathModel" 163 mX12_is 1 := ⟨wd_1293, wd_1291, wd_151, by decide +kernel⟩
theorem al_OneBreathModel_209 : aLk "OneBreathModel" 209 mX12_readSounds 0 := ⟨wd_1296, wd_1294, wd_151, by decide +kernel⟩
theorem al_OneBreathModel_172 : aLk "OneBreathModel" 172 mX12_fails 1 := ⟨wd_1299, wd_1297, wd_151, by decide +kernel⟩
theorem al_OneBreathModel_184 : aLk "OneBreathModel" 184 mX12_isLetters 2 := ⟨wd_1302, wd_1300, wd_151, by decide +kernel⟩
theorem al_OneBreathModel_188 : aLk "OneBreathModel" 188 mX12_isTwice 0 := ⟨wd_1305, wd_1303, wd_151, by decide +kernel⟩
theorem al_OneBreathModel_169 : aLk "OneBreathModel" 169 mX12_eats 1 := ⟨wd_1308, wd_1306, wd_151, by decide +kernel⟩
theorem al_OneBreathModel_205 : aLk "OneBreathModel" 205 mX12_takes 2 := ⟨wd_1311, wd_1309, wd_151, by decide +kernel⟩
theorem al_OneBreathModel_212 : aLk "OneBreathModel" 212 mX12_readOpen 0 := ⟨wd_1314, wd_1312, wd_151, by decide +kernel⟩
theorem al_OneBreathModel_192 : aLk "OneBreathModel" 192 mX12_areSounds 0 := ⟨wd_1317, wd_1315, wd_151, by decide +kernel⟩
theorem al_OneBreathModel_180 : aLk "OneBreathModel" 180 mX12_soundOf 2 := ⟨wd_1320, wd_1318, wd_151, by decide +kernel⟩
theorem al_OneBreathModel_215 : aLk "OneBreathModel" 215 mX12_readLike 0 := ⟨wd_1323, wd_1321, wd_151, by decide +kernel⟩
theorem al_OneBreathModel_195 : aLk "OneBreathModel" 195 mX12_readOne 1 := ⟨wd_1326, wd_1324, wd_151, by decide +kernel⟩
theorem al_OneBreathModel_218 : aLk "OneBreathModel" 218 mX12_readWord 0 := ⟨wd_1329, wd_1327, wd_151, by decide +kernel⟩
theorem al_OneBreathModel_198 : aLk "OneBreathModel" 198 mX12_wordOf 3 := ⟨wd_1332, wd_1330, wd_151, by decide +kernel⟩
theorem al_OneBreathModel_202 : aLk "OneBreathModel" 202 mX12_needs 1 := ⟨wd_1335, wd_1333, wd_151, by decide +kernel⟩
theorem al_OneBreathModel_221 : aLk "OneBreathModel" 221 mX12_readShape 0 := ⟨wd_1338, wd_1336, wd_151, by decide +kernel⟩
theorem al_OneBreathModel_232 : aLk "OneBreathModel" 232 mX12_isWord 1 := ⟨wd_1354, wd_1352, wd_151, by decide +kernel⟩
theorem al_OneBreathModel_244 : aLk "OneBreathModel" 244 mX12_unlikeOf 2 := ⟨wd_1380, wd_1378, wd_151, by decide +kernel⟩
theorem al_OneBreathModel_241 : aLk "OneBreathModel" 241 mX12_isLike 2 := ⟨wd_1383, wd_1381, wd_151, by decide +kernel⟩
theorem al_OneBreathModel_250 : aLk "OneBreathModel" 250 mX12_firstWrong 1 := ⟨wd_1394, wd_1392, wd_151, by decide +kernel⟩
theorem al_OneBreathModel_247 : aLk "OneBreathModel" 247 mX12_mayStand 2 := ⟨wd_1397, wd_1395, wd_151, by decide +kernel⟩
theorem al_OneBreathModel_256 : aLk "OneBreathModel" 256 mX12_isSentence 1 := ⟨wd_1400, wd_1398, wd_151, by decide +kernel⟩
theorem al_OneBreathModel_253 : aLk "OneBreathModel" 253 mX12_mayEnd 1 := ⟨wd_1403, wd_1401, wd_151, by decide +kernel⟩
theorem al_OneBreathModel_259 : aLk "OneBreathModel" 259 mX12_soundsOf 2 := ⟨wd_1406, wd_1404, wd_151, by decide +kernel⟩
theorem al_OneBreathModel_265 : aLk "OneBreathModel" 265 mX12_says 1 := ⟨wd_1413, wd_1411, wd_151, by decide +kernel⟩
theorem al_OneBreathModel_268 : aLk "OneBreathModel" 268 mX12_areSoundsOnTape 1 := ⟨wd_1420, wd_1418, wd_151, by decide +kernel⟩
theorem al_OneBreathModel_279 : aLk "OneBreathModel" 279 mX12_looksAtLine 0 := ⟨wd_1431, wd_1429, wd_151, by decide +kernel⟩
theorem al_OneBreathModel_282 : aLk "OneBreathModel" 282 mX12_laysWays 0 := ⟨wd_1434, wd_1432, wd_151, by decide +kernel⟩
theorem al_OneBreathModel_271 : aLk "OneBreathModel" 271 mX12_mayBe 2 := ⟨wd_1437, wd_1435, wd_151, by decide +kernel⟩
theorem al_OneBreathModel_274 : aLk "OneBreathModel" 274 mX12_mistakesAt 2 := ⟨wd_1440, wd_1438, wd_151, by decide +kernel⟩
theorem al_OneBreathModel_310 : aLk "OneBreathModel" 310 mX12_finds 1 := ⟨wd_1448, wd_1446, wd_151, by decide +kernel⟩
theorem al_OneBreathModel_303 : aLk "OneBreathModel" 303 mX12_findsFirst 1 := ⟨wd_1451, wd_1449, wd_151, by decide +kernel⟩
theorem al_OneBreathModel_300 : aLk "OneBreathModel" 300 mX12_laysSome 0 := ⟨wd_1454, wd_1452, wd_151, by decide +kernel⟩
theorem al_OneBreathModel_306 : aLk "OneBreathModel" 306 mX12_findsBest 1 := ⟨wd_1457, wd_1455, wd_151, by decide +kernel⟩
theorem al_OneBreathModel_289 : aLk "OneBreathModel" 289 mX12_laysBest 1 := ⟨wd_1460, wd_1458, wd_151, by decide +kernel⟩
theorem al_OneBreathModel_285 : aLk "OneBreathModel" 285 mX12_offBy 4 := ⟨wd_1463, wd_1461, wd_151, by decide +kernel⟩
theorem al_OneBreathModel_296 : aLk "OneBreathModel" 296 mX12_isBest 4 := ⟨wd_1466, wd_1464, wd_151, by decide +kernel⟩
theorem al_OneBreathModel_372 : aLk "OneBreathModel" 372 mX12_unsureOf 1 := ⟨wd_1481, wd_1479, wd_151, by decide +kernel⟩
theorem al_OneBreathModel_362 : aLk "OneBreathModel" 362 mX12_spreadsSame 3 := ⟨wd_1484, wd_1482, wd_151, by decide +kernel⟩
theorem al_OneBreathModel_348 : aLk "OneBreathModel" 348 mX12_follows 2 := ⟨wd_1487, wd_1485, wd_151, by decide +kernel⟩
theorem al_OneBreathModel_316 : aLk "OneBreathModel" 316 mX12_isEnd 1 := ⟨wd_1490, wd_1488, wd_151, by decide +kernel⟩
theorem al_OneBreathModel_319 : aLk "OneBreathModel" 319 mX12_slots 0 := ⟨wd_1493, wd_1491, wd_151, by decide +kernel⟩
theorem al_OneBreathModel_322 : aLk "OneBreathModel" 322 mX12_isOut 1 := ⟨wd_1496, wd_1494, wd_151, by decide +kernel⟩
theorem al_OneBreathModel_344 : aLk "OneBreathModel" 344 mX12_adds1 2 := ⟨wd_1499, wd_1497, wd_151, by decide +kernel⟩
theorem al_OneBreathModel_352 : aLk "OneBreathModel" 352 mX12_goesTo 6 := ⟨wd_1502, wd_1500, wd_151, by decide +kernel⟩
theorem al_OneBreathModel_334 : aLk "OneBreathModel" 334 mX12_soundAt 1 := ⟨wd_1505, wd_1503, wd_151, by decide +kernel⟩
theorem al_OneBreathModel_337 : aLk "OneBreathModel" 337 mX12_hasStop 1 := ⟨wd_1508, wd_1506, wd_151, by decide +kernel⟩
theorem al_OneBreathModel_340 : aLk "OneBreathModel" 340 mX12_pairOf 4 := ⟨wd_1511, wd_1509, wd_151, by decide +kernel⟩
theorem al_OneBreathModel_366 : aLk "OneBreathModel" 366 mX12_isGoal 1 := ⟨wd_1514, wd_1512, wd_151, by decide +kernel⟩
theorem al_OneBreathModel_356 : aLk "OneBreathModel" 356 mX12_canEnd 1 := ⟨wd_1517, wd_1515, wd_151, by decide +kernel⟩
theorem al_OneBreathModel_369 : aLk "OneBreathModel" 369 mX12_spreadsPair 3 := ⟨wd_1520, wd_1518, wd_151, by decide +kernel⟩
theorem al_OneBreathModel_378 : aLk "OneBreathModel" 378 mX12_gathers 3 := ⟨wd_1527, wd_1525, wd_151, by decide +kernel⟩
theorem al_OneBreathModel_385 : aLk "OneBreathModel" 385 mX12_isSure 1 := ⟨wd_1534, wd_1532, wd_151, by decide +kernel⟩
theorem al_OneBreathModel_408 : aLk "OneBreathModel" 408 mX12_findsAdded 1 := ⟨wd_1542, wd_1540, wd_151, by decide +kernel⟩
theorem al_OneBreathModel_394 : aLk "OneBreathModel" 394 mX12_isThere 1 := ⟨wd_1545, wd_1543, wd_151, by decide +kernel⟩
theorem al_OneBreathModel_397 : aLk "OneBreathModel" 397 mX12_isShaped 1 := ⟨wd_1548, wd_1546, wd_151, by decide +kernel⟩
theorem al_OneBreathModel_400 : aLk "OneBreathModel" 400 mX12_leastUnlike 1 := ⟨wd_1551, wd_1549, wd_151, by decide +kernel⟩
theorem al_OneBreathModel_403 : aLk "OneBreathModel" 403 mX12_isSureWith 1 := ⟨wd_1554, wd_1552, wd_151, by decide +kernel⟩
theorem al_OneBreathModel_413 : aLk "OneBreathModel" 413 mX12_bitsOf 1 := ⟨wd_1566, wd_1564, wd_151, by decide +kernel⟩
theorem al_OneBreathModel_416 : aLk "OneBreathModel" 416 mX12_beginAlike 3 := ⟨wd_1581, wd_1579, wd_151, by decide +kernel⟩
theorem al_OneBreathModel_422 : aLk "OneBreathModel" 422 mX12_fittedTo 2 := ⟨wd_1588, wd_1586, wd_151, by decide +kernel⟩
theorem al_OneBreathModel_419 : aLk "OneBreathModel" 419 mX12_fits 2 := ⟨wd_1591, wd_1589, wd_151, by decide +kernel⟩
theorem al_OneBreathModel_432 : aLk "OneBreathModel" 432 mX12_isEndless 0 := ⟨wd_1612, wd_1610, wd_151, by decide +kernel⟩
theorem al_OneBreathModel_429 : aLk "OneBreathModel" 429 mX12_mostSounds 1 := ⟨wd_1615, wd_1613, wd_151, by decide +kernel⟩
theorem al_OneBreathModel_439 : aLk "OneBreathModel" 439 mX12_laysRichest 1 := ⟨wd_1626, wd_1624, wd_151, by decide +kernel⟩
theorem al_OneBreathModel_435 : aLk "OneBreathModel" 435 mX12_richBy 3 := ⟨wd_1629, wd_1627, wd_151, by decide +kernel⟩
theorem al_OneBreathModel_456 : aLk "OneBreathModel" 456 mX12_refusesNoise 2 := ⟨wd_1637, wd_1635, wd_151, by decide +kernel⟩
theorem al_OneBreathModel_459 : aLk "OneBreathModel" 459 mX12_noises 1 := ⟨wd_1641, wd_1639, wd_151, by decide +kernel⟩
theorem al_OneBreathModel_449 : aLk "OneBreathModel" 449 mX12_draw 1 := ⟨wd_1644, wd_1642, wd_151, by decide +kernel⟩
theorem al_OneBreathModel_462 : aLk "OneBreathModel" 462 mX12_isHeard 1 := ⟨wd_1648, wd_1646, wd_151, by decide +kernel⟩
theorem al_OneBreathModel_467 : aLk "OneBreathModel" 467 mX12_haveAlike 2 := ⟨wd_1664, wd_1662, wd_151, by decide +kernel⟩
theorem al_OneBreathModel_470 : aLk "OneBreathModel" 470 mX12_isAhead 3 := ⟨wd_1667, wd_1665, wd_151, by decide +kernel⟩
theorem al_OneBreathModel_481 : aLk "OneBreathModel" 481 mX12_cutTo 2 := ⟨wd_1682, wd_1680, wd_151, by decide +kernel⟩
def okT (t : Nat) : Prop := t = 3 ∨ t = 25 ∨ t = 128 ∨ t = 152
def okS (t : Nat) : Prop := t = 47 ∨ t = 49 ∨ t = 74 ∨ t = 105 ∨ t = 112 ∨ t = 114 ∨ t = 116 ∨ t = 118 ∨ t = 150 ∨ t = 174
def okC (t : Nat) : Prop := t = 61 ∨ t = 67
theorem shT_0 {t : Nat} (h : okT t) : SH[t]? = some (.inr (.inr (.inr (8, [none, none, none, none, none, none, some (some (t + 1)), some (some (t + 2)), some (some (t + 3)), some (some (t + 16)), some (some (t + 17)), some (some (t + 18)), some (some (t + 19)), some (some (t + 20)), some (some (t + 21))])))) := by rcases h with rfl | rfl | rfl | rfl <;> rfl
theorem shT_1 {t : Nat} (h : okT t) : SH[t + 1]? = some (.inl (.byte, 8)) := by rcases h with rfl | rfl | rfl | rfl <;> rfl
theorem shT_2 {t : Nat} (h : okT t) : SH[t + 2]? = some (.inl (.int, 8)) := by rcases h with rfl | rfl | rfl | rfl <;> rfl
theorem shT_3 {t : Nat} (h : okT t) : SH[t + 3]? = some (.inr (.inr (.inl (.array .byte, [some (t + 4), some (t + 5), some (t + 6), some (t + 7), some (t + 8), some (t + 9), some (t + 10), some (t + 11), some (t + 12), some (t + 13), some (t + 14), some (t + 15)])))) := by rcases h with rfl | rfl | rfl | rfl <;> rfl
theorem shT_16 {t : Nat} (h : okT t) : SH[t + 16]? = some (.inl (.int, 12)) := by rcases h with rfl | rfl | rfl | rfl <;> rfl
theorem shT_17 {t : Nat} (h : okT t) : SH[t + 17]? = some (.inl (.int, 12)) := by rcases h with rfl | rfl | rfl | rfl <;> rfl
theorem shT_18 {t : Nat} (h : okT t) : SH[t + 18]? = some (.inl (.int, 12)) := by rcases h with rfl | rfl | rfl | rfl <;> rfl
theorem shT_19 {t : Nat} (h : okT t) : SH[t + 19]? = some (.inl (.int, 4)) := by rcases h with rfl | rfl | rfl | rfl <;> rfl
theorem shT_20 {t : Nat} (h : okT t) : SH[t + 20]? = some (.inl (.int, 6)) := by rcases h with rfl | rfl | rfl | rfl <;> rfl
theorem shT_21 {t : Nat} (h : okT t) : SH[t + 21]? = some (.inl (.int, 6)) := by rcases h with rfl | rfl | rfl | rfl <;> rfl
theorem shS_0 {t : Nat} (h : okS t) : SH[t]? = some (.inr (.inr (.inr (6, [some (some (t + 1)), none])))) := by rcases h with rfl | rfl | rfl | rfl | rfl | rfl | rfl | rfl | rfl | rfl <;> rfl
theorem shS_1 {t : Nat} (h : okS t) : SH[t + 1]? = some (.inl (.byte, 40)) := by rcases h with rfl | rfl | rfl | rfl | rfl | rfl | rfl | rfl | rfl | rfl <;> rfl
theorem shC_0 {t : Nat} (h : okC t) : SH[t]? = some (.inr (.inr (.inr (1, [some (some 25), none, some (some (t + 1)), some (some (t + 2)), some (some (t + 3)), none, some (some (t + 4)), some (some (t + 5)), none, none])))) := by rcases h with rfl | rfl <;> rfl
theorem shC_1 {t : Nat} (h : okC t) : SH[t + 1]? = some (.inl (.byte, 720)) := by rcases h with rfl | rfl <;> rfl
theorem shC_2 {t : Nat} (h : okC t) : SH[t + 2]? = some (.inl (.int, 305)) := by rcases h with rfl | rfl <;> rfl
theorem shC_3 {t : Nat} (h : okC t) : SH[t + 3]? = some (.inr (.inl 915)) := by rcases h with rfl | rfl <;> rfl
theorem shC_4 {t : Nat} (h : okC t) : SH[t + 4]? = some (.inl (.int, 60)) := by rcases h with rfl | rfl <;> rfl
theorem shC_5 {t : Nat} (h : okC t) : SH[t + 5]? = some (.inl (.int, 60)) := by rcases h with rfl | rfl <;> rfl
def okB (r : Nat) : Prop := ∃ n, SH[r]? = some (.inl (.byte, n))
def okI (r : Nat) : Prop := ∃ n, SH[r]? = some (.inl (.int, n))
def okL (r : Nat) : Prop := ∃ n, SH[r]? = some (.inr (.inl n))
def aln (r : Nat) : Nat := match SH[r]? with
  | some (.inl (_, n)) => n
  | some (.inr (.inl n)) => n
  | _ => 0
theorem okB_at {r : Nat} (h : okB r) : SH[r]? = some (.inl (.byte, aln r)) := by
  obtain ⟨n, hn⟩ := h
  unfold aln
  rw [hn]
theorem okI_at {r : Nat} (h : okI r) : SH[r]? = some (.inl (.int, aln r)) := by
  obtain ⟨n, hn⟩ := h
  unfold aln
  rw [hn]
theorem okL_at {r : Nat} (h : okL r) : SH[r]? = some (.inr (.inl (aln r))) := by
  obtain ⟨n, hn⟩ := h
  unfold aln
  rw [hn]
theorem nat_of {w : Int} {n : Nat} (h : 0 ≤ w ∧ w < n) : ∃ k : Nat, k < n ∧ w = k := ⟨w.toNat, by omega, by omega⟩
def rsT (t : Nat) : List (Option Nat) := [some (t + 4), some (t + 5), some (t + 6), some (t + 7), some (t + 8), some (t + 9), some (t + 10), some (t + 11), some (t + 12), some (t + 13), some (t + 14), some (t + 15)]
theorem rsT_at {t : Nat} {w : Int} (h : 0 ≤ w ∧ w < 12) : (rsT t)[w.toNat]? = some (some (t + 4 + w.toNat)) := by
  obtain ⟨k, hk, rfl⟩ := nat_of (n := 12) h
  have : ∀ k : Nat, k < 12 → (rsT t)[k]? = some (some (t + 4 + k)) := by
    intro k hk
    match k, hk with
    | 0, _ => rfl
    | 1, _ => rfl
    | 2, _ => rfl
    | 3, _ => rfl
    | 4, _ => rfl
    | 5, _ => rfl
    | 6, _ => rfl
    | 7, _ => rfl
    | 8, _ => rfl
    | 9, _ => rfl
    | 10, _ => rfl
    | 11, _ => rfl
  exact this k hk
theorem shTr {t : Nat} {w : Int} (h : okT t) (hw : 0 ≤ w ∧ w < 12) : SH[t + 4 + w.toNat]? = some (.inl (.byte, 6)) := by
  obtain ⟨k, hk, rfl⟩ := nat_of (n := 12) hw
  rcases h with rfl | rfl | rfl | rfl
  · exact (match k, hk with | 0, _ => rfl | 1, _ => rfl | 2, _ => rfl | 3, _ => rfl | 4, _ => rfl | 5, _ => rfl | 6, _ => rfl | 7, _ => rfl | 8, _ => rfl | 9, _ => rfl | 10, _ => rfl | 11, _ => rfl)
  · exact (match k, hk with | 0, _ => rfl | 1, _ => rfl | 2, _ => rfl | 3, _ => rfl | 4, _ => rfl | 5, _ => rfl | 6, _ => rfl | 7, _ => rfl | 8, _ => rfl | 9, _ => rfl | 10, _ => rfl | 11, _ => rfl)
  · exact (match k, hk with | 0, _ => rfl | 1, _ => rfl | 2, _ => rfl | 3, _ => rfl | 4, _ => rfl | 5, _ => rfl | 6, _ => rfl | 7, _ => rfl | 8, _ => rfl | 9, _ => rfl | 10, _ => rfl | 11, _ => rfl)
  · exact (match k, hk with | 0, _ => rfl | 1, _ => rfl | 2, _ => rfl | 3, _ => rfl | 4, _ => rfl | 5, _ => rfl | 6, _ => rfl | 7, _ => rfl | 8, _ => rfl | 9, _ => rfl | 10, _ => rfl | 11, _ => rfl)
theorem shTa {t : Nat} (h : okT t) : SH[t + 3]? = some (.inr (.inr (.inl (.array .byte, rsT t)))) := shT_3 h
def rsW : List (Option Nat) := [some 82, some 83, some 84, some 85, some 86, some 87, some 88, some 89, some 90, some 91, some 92, some 93, some 94]
theorem shWa : SH[81]? = some (.inr (.inr (.inl (.array .byte, rsW)))) := rfl
theorem rsW_at {w : Int} (h : 0 ≤ w ∧ w < 13) : rsW[w.toNat]? = some (some (82 + w.toNat)) := by
  obtain ⟨k, hk, rfl⟩ := nat_of (n := 13) h
  exact (by decide : ∀ k : Nat, k < 13 → rsW[k]? = some (some (82 + k))) k hk
theorem shWr {w : Int} (h : 0 ≤ w ∧ w < 13) : SH[82 + w.toNat]? = some (.inl (.byte, 7)) := by
  obtain ⟨k, hk, rfl⟩ := nat_of (n := 13) h
  exact (match k, hk with | 0, _ => rfl | 1, _ => rfl | 2, _ => rfl | 3, _ => rfl | 4, _ => rfl | 5, _ => rfl | 6, _ => rfl | 7, _ => rfl | 8, _ => rfl | 9, _ => rfl | 10, _ => rfl | 11, _ => rfl | 12, _ => rfl)
def rsV : List (Option Nat) := [some 53, some 54, some 55, some 56]
theorem shVa : SH[52]? = some (.inr (.inr (.inl (.array .long, rsV)))) := rfl
theorem rsV_at {w : Int} (h : 0 ≤ w ∧ w < 4) : rsV[w.toNat]? = some (some (53 + w.toNat)) := by
  obtain ⟨k, hk, rfl⟩ := nat_of (n := 4) h
  exact (by decide : ∀ k : Nat, k < 4 → rsV[k]? = some (some (53 + k))) k hk
theorem shVr {w : Int} (h : 0 ≤ w ∧ w < 4) : SH[53 + w.toNat]? = some (.inr (.inl 40)) := by
  obtain ⟨k, hk, rfl⟩ := nat_of (n := 4) h
  exact (match k, hk with | 0, _ => rfl | 1, _ => rfl | 2, _ => rfl | 3, _ => rfl)
def rsA : List (Option Nat) := [some 112, some 114, some 116, some 118]
theorem shAa : SH[110]? = some (.inr (.inr (.inl (.object "OneBreath$Sounds", rsA)))) := rfl
theorem rsA_at {w : Int} (h : 0 ≤ w ∧ w < 4) : rsA[w.toNat]? = some (some (112 + 2 * w.toNat)) := by
  obtain ⟨k, hk, rfl⟩ := nat_of (n := 4) h
  exact (by decide : ∀ k : Nat, k < 4 → rsA[k]? = some (some (112 + 2 * k))) k hk
theorem okS_A {w : Int} (h : 0 ≤ w ∧ w < 4) : okS (112 + 2 * w.toNat) := by
  obtain ⟨k, hk, rfl⟩ := nat_of (n := 4) h
  unfold okS
  show 112 + 2 * k = 47 ∨ 112 + 2 * k = 49 ∨ 112 + 2 * k = 74 ∨ 112 + 2 * k = 105 ∨ 112 + 2 * k = 112 ∨ 112 + 2 * k = 114 ∨ 112 + 2 * k = 116 ∨ 112 + 2 * k = 118 ∨ 112 + 2 * k = 150 ∨ 112 + 2 * k = 174
  omega
def rsM : List (Option Nat) := [some 128, some 152]
theorem shMa : SH[125]? = some (.inr (.inr (.inl (.object "OneBreath$Tongue", rsM)))) := rfl
theorem rsM_at {w : Int} (h : 0 ≤ w ∧ w < 2) : rsM[w.toNat]? = some (some (128 + 24 * w.toNat)) := by
  obtain ⟨k, hk, rfl⟩ := nat_of (n := 2) h
  exact (by decide : ∀ k : Nat, k < 2 → rsM[k]? = some (some (128 + 24 * k))) k hk
theorem okT_M {w : Int} (h : 0 ≤ w ∧ w < 2) : okT (128 + 24 * w.toNat) := by
  obtain ⟨k, hk, rfl⟩ := nat_of (n := 2) h
  unfold okT
  show 128 + 24 * k = 3 ∨ 128 + 24 * k = 25 ∨ 128 + 24 * k = 128 ∨ 128 + 24 * k = 152
  omega
def rsN : List (Option Nat) := [some 150, some 174]
theorem shNa : SH[126]? = some (.inr (.inr (.inl (.object "OneBreath$Sounds", rsN)))) := rfl
theorem rsN_at {w : Int} (h : 0 ≤ w ∧ w < 2) : rsN[w.toNat]? = some (some (150 + 24 * w.toNat)) := by
  obtain ⟨k, hk, rfl⟩ := nat_of (n := 2) h
  exact (by decide : ∀ k : Nat, k < 2 → rsN[k]? = some (some (150 + 24 * k))) k hk
theorem okS_N {w : Int} (h : 0 ≤ w ∧ w < 2) : okS (150 + 24 * w.toNat) := by
  obtain ⟨k, hk, rfl⟩ := nat_of (n := 2) h
  unfold okS
  show 150 + 24 * k = 47 ∨ 150 + 24 * k = 49 ∨ 150 + 24 * k = 74 ∨ 150 + 24 * k = 105 ∨ 150 + 24 * k = 112 ∨ 150 + 24 * k = 114 ∨ 150 + 24 * k = 116 ∨ 150 + 24 * k = 118 ∨ 150 + 24 * k = 150 ∨ 150 + 24 * k = 174
  omega
