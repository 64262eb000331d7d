-- WORDS of the tables that the walks use; constants
theorem wO_1 : Cond.instanceMethod Lib.objectInit ∈ fw_tb := fw_in1 32 rfl rfl
theorem wO_2 : Cond.code Lib.objectInit ⟨#[0xb1]⟩ 1 none ∈ fw_tb := fw_in1 33 rfl rfl
theorem wA_int : Cond.arrayClass .int ∈ fw_tb := fw_in1 53 rfl rfl
theorem wA_long : Cond.arrayClass .long ∈ fw_tb := fw_in2 92 rfl rfl
theorem wC_Joy_16 : Cond.classLink "OneJoy" 16 "OneJoy$VillageText" ∈ fw_tb := fw_in1 54 rfl rfl
theorem wC_Joy_25 : Cond.classLink "OneJoy" 25 "OneJoy$LawText" ∈ fw_tb := fw_in1 156 rfl rfl
theorem wC_Joy_32 : Cond.classLink "OneJoy" 32 "OneJoy$Village" ∈ fw_tb := fw_in1 192 rfl rfl
theorem wC_Joy_42 : Cond.classLink "OneJoy" 42 "OneJoy$Law" ∈ fw_tb := fw_in1 194 rfl rfl
theorem wC_Joy_57 : Cond.classLink "OneJoy" 57 "OneJoy$Acts" ∈ fw_tb := fw_in1 197 rfl rfl
theorem wC_Joy_64 : Cond.classLink "OneJoy" 64 "OneJoy$Walk" ∈ fw_tb := fw_in1 222 rfl rfl
theorem wC_Joy_7 : Cond.classLink "OneJoy" 7 "OneJoy$Tape" ∈ fw_tb := fw_in1 34 rfl rfl
theorem wC_Joy_71 : Cond.classLink "OneJoy" 71 "OneJoy$Ways" ∈ fw_tb := fw_in2 54 rfl rfl
theorem wC_Joy_80 : Cond.classLink "OneJoy" 80 "OneJoy$Spread" ∈ fw_tb := fw_in2 76 rfl rfl
theorem wC_Joy_87 : Cond.classLink "OneJoy" 87 "OneJoy$Seen" ∈ fw_tb := fw_in2 93 rfl rfl
theorem wC_LText_9 : Cond.classLink "OneJoy$LawText" 9 "OneJoy$Law" ∈ fw_tb := fw_in1 162 rfl rfl
theorem wC_Law0_16 : Cond.classLink "OneJoyLaw" 16 "OneJoyModel" ∈ fw_tb := fw_in6 151 rfl rfl
theorem wC_Law0_8 : Cond.classLink "OneJoyLaw" 8 "OneJoy" ∈ fw_tb := fw_in1 26 rfl rfl
theorem wC_VText_9 : Cond.classLink "OneJoy$VillageText" 9 "OneJoy$Village" ∈ fw_tb := fw_in1 60 rfl rfl
theorem wC_Walk_11 : Cond.classLink "OneJoy$Walk" 11 "OneJoy$Village" ∈ fw_tb := fw_in1 228 rfl rfl
theorem wF_Acts_15 : Cond.fieldLink "OneJoy$Acts" 15 "OneJoy$Acts" "whats" "[I" ∈ fw_tb := fw_in1 204 rfl rfl
theorem wF_Acts_18 : Cond.fieldLink "OneJoy$Acts" 18 "OneJoy$Acts" "places" "[I" ∈ fw_tb := fw_in1 205 rfl rfl
theorem wF_Acts_21 : Cond.fieldLink "OneJoy$Acts" 21 "OneJoy$Acts" "befores" "[I" ∈ fw_tb := fw_in1 206 rfl rfl
theorem wF_Acts_24 : Cond.fieldLink "OneJoy$Acts" 24 "OneJoy$Acts" "kept" "I" ∈ fw_tb := fw_in1 207 rfl rfl
theorem wF_Acts_28 : Cond.fieldLink "OneJoy$Acts" 28 "OneJoy$Acts" "next" "I" ∈ fw_tb := fw_in1 208 rfl rfl
theorem wF_Acts_37 : Cond.fieldLink "OneJoy$Acts" 37 "OneJoy$Village" "at" "I" ∈ fw_tb := fw_in1 100 rfl rfl
theorem wF_Acts_42 : Cond.fieldLink "OneJoy$Acts" 42 "OneJoy$Village" "before" "I" ∈ fw_tb := fw_in1 104 rfl rfl
theorem wF_Acts_59 : Cond.fieldLink "OneJoy$Acts" 59 "OneJoy$Village" "backs" "I" ∈ fw_tb := fw_in1 88 rfl rfl
theorem wF_Acts_62 : Cond.fieldLink "OneJoy$Acts" 62 "OneJoy$Village" "shuts" "I" ∈ fw_tb := fw_in1 83 rfl rfl
theorem wF_Acts_65 : Cond.fieldLink "OneJoy$Acts" 65 "OneJoy$Village" "music" "Z" ∈ fw_tb := fw_in1 92 rfl rfl
theorem wF_Acts_69 : Cond.fieldLink "OneJoy$Acts" 69 "OneJoy$Village" "fog" "Z" ∈ fw_tb := fw_in1 96 rfl rfl
theorem wF_Acts_9 : Cond.fieldLink "OneJoy$Acts" 9 "OneJoy$Acts" "kinds" "[I" ∈ fw_tb := fw_in1 203 rfl rfl
theorem wF_JStr_15 : Cond.fieldLink "java/lang/String" 15 "java/lang/String" "coder" "B" ∈ fw_tb := fw_in9 56 rfl rfl
theorem wF_JStr_38 : Cond.fieldLink "java/lang/String" 38 "java/lang/String" "COMPACT_STRINGS" "Z" ∈ fw_tb := fw_in3 16 rfl rfl
theorem wF_JStr_9 : Cond.fieldLink "java/lang/String" 9 "java/lang/String" "value" "[B" ∈ fw_tb := fw_in9 55 rfl rfl
theorem wF_Joy_10 : Cond.fieldLink "OneJoy" 10 "OneJoy" "tape" "LOneJoy$Tape;" ∈ fw_tb := fw_in2 130 rfl rfl
theorem wF_Joy_117 : Cond.fieldLink "OneJoy" 117 "OneJoy" "lawCount" "I" ∈ fw_tb := fw_in2 138 rfl rfl
theorem wF_Joy_123 : Cond.fieldLink "OneJoy" 123 "OneJoy$VillageText" "draft" "LOneJoy$Village;" ∈ fw_tb := fw_in1 144 rfl rfl
theorem wF_Joy_134 : Cond.fieldLink "OneJoy" 134 "OneJoy" "imaged" "Z" ∈ fw_tb := fw_in2 135 rfl rfl
theorem wF_Joy_138 : Cond.fieldLink "OneJoy" 138 "OneJoy$Village" "houses" "I" ∈ fw_tb := fw_in1 69 rfl rfl
theorem wF_Joy_141 : Cond.fieldLink "OneJoy" 141 "OneJoy$LawText" "draft" "LOneJoy$Law;" ∈ fw_tb := fw_in1 186 rfl rfl
theorem wF_Joy_156 : Cond.fieldLink "OneJoy" 156 "OneJoy$Village" "backs" "I" ∈ fw_tb := fw_in1 89 rfl rfl
theorem wF_Joy_169 : Cond.fieldLink "OneJoy" 169 "OneJoy$Village" "laughs" "[I" ∈ fw_tb := fw_in1 77 rfl rfl
theorem wF_Joy_183 : Cond.fieldLink "OneJoy" 183 "OneJoy$Village" "oneWays" "I" ∈ fw_tb := fw_in1 80 rfl rfl
theorem wF_Joy_186 : Cond.fieldLink "OneJoy" 186 "OneJoy$Village" "shuts" "I" ∈ fw_tb := fw_in1 85 rfl rfl
theorem wF_Joy_21 : Cond.fieldLink "OneJoy" 21 "OneJoy" "villageText" "LOneJoy$VillageText;" ∈ fw_tb := fw_in2 131 rfl rfl
theorem wF_Joy_212 : Cond.fieldLink "OneJoy" 212 "OneJoy$Village" "music" "Z" ∈ fw_tb := fw_in1 94 rfl rfl
theorem wF_Joy_215 : Cond.fieldLink "OneJoy" 215 "OneJoy$Village" "fog" "Z" ∈ fw_tb := fw_in1 97 rfl rfl
theorem wF_Joy_222 : Cond.fieldLink "OneJoy" 222 "OneJoy$Village" "at" "I" ∈ fw_tb := fw_in1 101 rfl rfl
theorem wF_Joy_228 : Cond.fieldLink "OneJoy" 228 "OneJoy$Village" "before" "I" ∈ fw_tb := fw_in1 105 rfl rfl
theorem wF_Joy_235 : Cond.fieldLink "OneJoy" 235 "OneJoy" "mistLevel" "I" ∈ fw_tb := fw_in2 141 rfl rfl
theorem wF_Joy_238 : Cond.fieldLink "OneJoy" 238 "OneJoy$Village" "hour" "I" ∈ fw_tb := fw_in1 108 rfl rfl
theorem wF_Joy_252 : Cond.fieldLink "OneJoy" 252 "OneJoy$Walk" "at" "I" ∈ fw_tb := fw_in1 238 rfl rfl
theorem wF_Joy_253 : Cond.fieldLink "OneJoy" 253 "OneJoy$Walk" "before" "I" ∈ fw_tb := fw_in2 1 rfl rfl
theorem wF_Joy_273 : Cond.fieldLink "OneJoy" 273 "OneJoy$Walk" "lead" "I" ∈ fw_tb := fw_in2 16 rfl rfl
theorem wF_Joy_276 : Cond.fieldLink "OneJoy" 276 "OneJoy$Walk" "loop" "I" ∈ fw_tb := fw_in2 18 rfl rfl
theorem wF_Joy_28 : Cond.fieldLink "OneJoy" 28 "OneJoy" "lawText" "LOneJoy$LawText;" ∈ fw_tb := fw_in2 132 rfl rfl
theorem wF_Joy_282 : Cond.fieldLink "OneJoy" 282 "OneJoy$Walk" "met" "I" ∈ fw_tb := fw_in2 20 rfl rfl
theorem wF_Joy_328 : Cond.fieldLink "OneJoy" 328 "OneJoy$Seen" "sets" "I" ∈ fw_tb := fw_in2 106 rfl rfl
theorem wF_Joy_331 : Cond.fieldLink "OneJoy" 331 "OneJoy$Seen" "chosen" "I" ∈ fw_tb := fw_in2 110 rfl rfl
theorem wF_Joy_334 : Cond.fieldLink "OneJoy" 334 "OneJoy$Seen" "common" "I" ∈ fw_tb := fw_in2 108 rfl rfl
theorem wF_Joy_343 : Cond.fieldLink "OneJoy" 343 "OneJoy$Village" "windows" "I" ∈ fw_tb := fw_in1 74 rfl rfl
theorem wF_Joy_35 : Cond.fieldLink "OneJoy" 35 "OneJoy" "village" "LOneJoy$Village;" ∈ fw_tb := fw_in2 133 rfl rfl
theorem wF_Joy_39 : Cond.fieldLink "OneJoy" 39 "OneJoy" "image" "LOneJoy$Village;" ∈ fw_tb := fw_in2 134 rfl rfl
theorem wF_Joy_45 : Cond.fieldLink "OneJoy" 45 "OneJoy" "plainLaw" "LOneJoy$Law;" ∈ fw_tb := fw_in2 136 rfl rfl
theorem wF_Joy_49 : Cond.fieldLink "OneJoy" 49 "OneJoy" "laws" "[LOneJoy$Law;" ∈ fw_tb := fw_in2 137 rfl rfl
theorem wF_Joy_53 : Cond.fieldLink "OneJoy" 53 "OneJoy" "lawHeld" "I" ∈ fw_tb := fw_in2 139 rfl rfl
theorem wF_Joy_60 : Cond.fieldLink "OneJoy" 60 "OneJoy" "acts" "LOneJoy$Acts;" ∈ fw_tb := fw_in2 140 rfl rfl
theorem wF_Joy_67 : Cond.fieldLink "OneJoy" 67 "OneJoy" "walk" "LOneJoy$Walk;" ∈ fw_tb := fw_in2 142 rfl rfl
theorem wF_Joy_76 : Cond.fieldLink "OneJoy" 76 "OneJoy" "ways" "LOneJoy$Ways;" ∈ fw_tb := fw_in2 143 rfl rfl
theorem wF_Joy_83 : Cond.fieldLink "OneJoy" 83 "OneJoy" "spread" "LOneJoy$Spread;" ∈ fw_tb := fw_in2 144 rfl rfl
theorem wF_Joy_90 : Cond.fieldLink "OneJoy" 90 "OneJoy" "seen" "LOneJoy$Seen;" ∈ fw_tb := fw_in2 145 rfl rfl
theorem wF_LText_12 : Cond.fieldLink "OneJoy$LawText" 12 "OneJoy$LawText" "draft" "LOneJoy$Law;" ∈ fw_tb := fw_in1 185 rfl rfl
theorem wF_LText_18 : Cond.fieldLink "OneJoy$LawText" 18 "OneJoy$LawText" "tape" "LOneJoy$Tape;" ∈ fw_tb := fw_in1 184 rfl rfl
theorem wF_Law_15 : Cond.fieldLink "OneJoy$Law" 15 "OneJoy$Law" "stack" "[I" ∈ fw_tb := fw_in1 169 rfl rfl
theorem wF_Law_18 : Cond.fieldLink "OneJoy$Law" 18 "OneJoy$Law" "open" "I" ∈ fw_tb := fw_in1 171 rfl rfl
theorem wF_Law_22 : Cond.fieldLink "OneJoy$Law" 22 "OneJoy$Law" "length" "I" ∈ fw_tb := fw_in1 170 rfl rfl
theorem wF_Law_25 : Cond.fieldLink "OneJoy$Law" 25 "OneJoy$Law" "tellsTime" "Z" ∈ fw_tb := fw_in1 172 rfl rfl
theorem wF_Law_9 : Cond.fieldLink "OneJoy$Law" 9 "OneJoy$Law" "steps" "[I" ∈ fw_tb := fw_in1 168 rfl rfl
theorem wF_Mod_103 : Cond.fieldLink "OneJoyModel" 103 "OneJoyModel" "size" "I" ∈ fw_tb := fw_in6 159 rfl rfl
theorem wF_Mod_106 : Cond.fieldLink "OneJoyModel" 106 "OneJoyModel" "at" "I" ∈ fw_tb := fw_in6 160 rfl rfl
theorem wF_Mod_113 : Cond.fieldLink "OneJoyModel" 113 "OneJoyModel" "wrong" "I" ∈ fw_tb := fw_in6 161 rfl rfl
theorem wF_Mod_116 : Cond.fieldLink "OneJoyModel" 116 "OneJoyModel" "text" "I" ∈ fw_tb := fw_in6 171 rfl rfl
theorem wF_Mod_119 : Cond.fieldLink "OneJoyModel" 119 "OneJoyModel" "deep" "I" ∈ fw_tb := fw_in6 162 rfl rfl
theorem wF_Mod_13 : Cond.fieldLink "OneJoyModel" 13 "OneJoyModel" "code" "[I" ∈ fw_tb := fw_in6 163 rfl rfl
theorem wF_Mod_16 : Cond.fieldLink "OneJoyModel" 16 "OneJoyModel" "value" "[I" ∈ fw_tb := fw_in6 164 rfl rfl
theorem wF_Mod_19 : Cond.fieldLink "OneJoyModel" 19 "OneJoyModel" "codes" "[I" ∈ fw_tb := fw_in6 165 rfl rfl
theorem wF_Mod_22 : Cond.fieldLink "OneJoyModel" 22 "OneJoyModel" "clauses" "[I" ∈ fw_tb := fw_in6 166 rfl rfl
theorem wF_Mod_228 : Cond.fieldLink "OneJoyModel" 228 "OneJoyModel" "readHouses" "I" ∈ fw_tb := fw_in6 177 rfl rfl
theorem wF_Mod_231 : Cond.fieldLink "OneJoyModel" 231 "OneJoyModel" "readWindows" "I" ∈ fw_tb := fw_in6 178 rfl rfl
theorem wF_Mod_25 : Cond.fieldLink "OneJoyModel" 25 "OneJoyModel" "testFrom" "[I" ∈ fw_tb := fw_in6 167 rfl rfl
theorem wF_Mod_250 : Cond.fieldLink "OneJoyModel" 250 "OneJoyModel" "houses" "I" ∈ fw_tb := fw_in6 181 rfl rfl
theorem wF_Mod_253 : Cond.fieldLink "OneJoyModel" 253 "OneJoyModel" "windows" "I" ∈ fw_tb := fw_in6 182 rfl rfl
theorem wF_Mod_259 : Cond.fieldLink "OneJoyModel" 259 "OneJoyModel" "sights" "I" ∈ fw_tb := fw_in6 204 rfl rfl
theorem wF_Mod_262 : Cond.fieldLink "OneJoyModel" 262 "OneJoyModel" "acts" "I" ∈ fw_tb := fw_in6 188 rfl rfl
theorem wF_Mod_265 : Cond.fieldLink "OneJoyModel" 265 "OneJoyModel" "hasImage" "Z" ∈ fw_tb := fw_in6 206 rfl rfl
theorem wF_Mod_272 : Cond.fieldLink "OneJoyModel" 272 "OneJoyModel" "laws" "I" ∈ fw_tb := fw_in6 170 rfl rfl
theorem wF_Mod_28 : Cond.fieldLink "OneJoyModel" 28 "OneJoyModel" "sumFrom" "[I" ∈ fw_tb := fw_in6 168 rfl rfl
theorem wF_Mod_31 : Cond.fieldLink "OneJoyModel" 31 "OneJoyModel" "sumTo" "[I" ∈ fw_tb := fw_in6 169 rfl rfl
theorem wF_Mod_321 : Cond.fieldLink "OneJoyModel" 321 "OneJoyModel" "misty" "I" ∈ fw_tb := fw_in6 186 rfl rfl
theorem wF_Mod_330 : Cond.fieldLink "OneJoyModel" 330 "OneJoyModel" "atNow" "I" ∈ fw_tb := fw_in6 189 rfl rfl
theorem wF_Mod_333 : Cond.fieldLink "OneJoyModel" 333 "OneJoyModel" "beforeNow" "I" ∈ fw_tb := fw_in6 190 rfl rfl
theorem wF_Mod_336 : Cond.fieldLink "OneJoyModel" 336 "OneJoyModel" "timeNow" "I" ∈ fw_tb := fw_in6 191 rfl rfl
theorem wF_Mod_34 : Cond.fieldLink "OneJoyModel" 34 "OneJoyModel" "letters" "[I" ∈ fw_tb := fw_in6 172 rfl rfl
theorem wF_Mod_351 : Cond.fieldLink "OneJoyModel" 351 "OneJoyModel" "onWay" "I" ∈ fw_tb := fw_in6 195 rfl rfl
theorem wF_Mod_357 : Cond.fieldLink "OneJoyModel" 357 "OneJoyModel" "tail" "I" ∈ fw_tb := fw_in6 193 rfl rfl
theorem wF_Mod_360 : Cond.fieldLink "OneJoyModel" 360 "OneJoyModel" "ring" "I" ∈ fw_tb := fw_in6 194 rfl rfl
theorem wF_Mod_363 : Cond.fieldLink "OneJoyModel" 363 "OneJoyModel" "onRing" "I" ∈ fw_tb := fw_in6 196 rfl rfl
theorem wF_Mod_37 : Cond.fieldLink "OneJoyModel" 37 "OneJoyModel" "stack" "[I" ∈ fw_tb := fw_in6 173 rfl rfl
theorem wF_Mod_40 : Cond.fieldLink "OneJoyModel" 40 "OneJoyModel" "readVillage" "[I" ∈ fw_tb := fw_in6 174 rfl rfl
theorem wF_Mod_43 : Cond.fieldLink "OneJoyModel" 43 "OneJoyModel" "readHouse" "[I" ∈ fw_tb := fw_in6 175 rfl rfl
theorem wF_Mod_46 : Cond.fieldLink "OneJoyModel" 46 "OneJoyModel" "readWindow" "[I" ∈ fw_tb := fw_in6 176 rfl rfl
theorem wF_Mod_49 : Cond.fieldLink "OneJoyModel" 49 "OneJoyModel" "told" "[I" ∈ fw_tb := fw_in6 179 rfl rfl
theorem wF_Mod_52 : Cond.fieldLink "OneJoyModel" 52 "OneJoyModel" "window" "[I" ∈ fw_tb := fw_in6 180 rfl rfl
theorem wF_Mod_55 : Cond.fieldLink "OneJoyModel" 55 "OneJoyModel" "now" "[I" ∈ fw_tb := fw_in6 183 rfl rfl
theorem wF_Mod_58 : Cond.fieldLink "OneJoyModel" 58 "OneJoyModel" "envy" "[I" ∈ fw_tb := fw_in6 184 rfl rfl
theorem wF_Mod_61 : Cond.fieldLink "OneJoyModel" 61 "OneJoyModel" "holding" "I" ∈ fw_tb := fw_in6 185 rfl rfl
theorem wF_Mod_65 : Cond.fieldLink "OneJoyModel" 65 "OneJoyModel" "kept" "[I" ∈ fw_tb := fw_in6 187 rfl rfl
theorem wF_Mod_68 : Cond.fieldLink "OneJoyModel" 68 "OneJoyModel" "firstAt" "[I" ∈ fw_tb := fw_in6 192 rfl rfl
theorem wF_Mod_71 : Cond.fieldLink "OneJoyModel" 71 "OneJoyModel" "aside" "[I" ∈ fw_tb := fw_in6 197 rfl rfl
theorem wF_Mod_74 : Cond.fieldLink "OneJoyModel" 74 "OneJoyModel" "lied" "[I" ∈ fw_tb := fw_in6 198 rfl rfl
theorem wF_Mod_77 : Cond.fieldLink "OneJoyModel" 77 "OneJoyModel" "liedThen" "[I" ∈ fw_tb := fw_in6 199 rfl rfl
theorem wF_Mod_80 : Cond.fieldLink "OneJoyModel" 80 "OneJoyModel" "parts" "[J" ∈ fw_tb := fw_in6 200 rfl rfl
theorem wF_Mod_84 : Cond.fieldLink "OneJoyModel" 84 "OneJoyModel" "partsThen" "[J" ∈ fw_tb := fw_in6 201 rfl rfl
theorem wF_Mod_87 : Cond.fieldLink "OneJoyModel" 87 "OneJoyModel" "seenBehind" "[I" ∈ fw_tb := fw_in6 202 rfl rfl
theorem wF_Mod_9 : Cond.fieldLink "OneJoyModel" 9 "OneJoyModel" "tape" "[I" ∈ fw_tb := fw_in6 158 rfl rfl
theorem wF_Mod_90 : Cond.fieldLink "OneJoyModel" 90 "OneJoyModel" "seenAt" "[I" ∈ fw_tb := fw_in6 203 rfl rfl
theorem wF_Mod_93 : Cond.fieldLink "OneJoyModel" 93 "OneJoyModel" "image" "[I" ∈ fw_tb := fw_in6 205 rfl rfl
theorem wF_Mod_96 : Cond.fieldLink "OneJoyModel" 96 "OneJoyModel" "thrown" "I" ∈ fw_tb := fw_in6 157 rfl rfl
theorem wF_Seen_11 : Cond.fieldLink "OneJoy$Seen" 11 "OneJoy$Seen" "hours" "[I" ∈ fw_tb := fw_in2 100 rfl rfl
theorem wF_Seen_15 : Cond.fieldLink "OneJoy$Seen" 15 "OneJoy$Seen" "places" "[I" ∈ fw_tb := fw_in2 101 rfl rfl
theorem wF_Seen_18 : Cond.fieldLink "OneJoy$Seen" 18 "OneJoy$Seen" "allowed" "[I" ∈ fw_tb := fw_in2 103 rfl rfl
theorem wF_Seen_21 : Cond.fieldLink "OneJoy$Seen" 21 "OneJoy$Seen" "walk" "LOneJoy$Walk;" ∈ fw_tb := fw_in2 99 rfl rfl
theorem wF_Seen_25 : Cond.fieldLink "OneJoy$Seen" 25 "OneJoy$Seen" "size" "I" ∈ fw_tb := fw_in2 102 rfl rfl
theorem wF_Seen_41 : Cond.fieldLink "OneJoy$Seen" 41 "OneJoy$Seen" "last" "I" ∈ fw_tb := fw_in2 104 rfl rfl
theorem wF_Seen_54 : Cond.fieldLink "OneJoy$Seen" 54 "OneJoy$Walk" "envious" "I" ∈ fw_tb := fw_in2 8 rfl rfl
theorem wF_Seen_65 : Cond.fieldLink "OneJoy$Seen" 65 "OneJoy$Walk" "at" "I" ∈ fw_tb := fw_in1 236 rfl rfl
theorem wF_Seen_75 : Cond.fieldLink "OneJoy$Seen" 75 "OneJoy$Seen" "sets" "I" ∈ fw_tb := fw_in2 105 rfl rfl
theorem wF_Seen_78 : Cond.fieldLink "OneJoy$Seen" 78 "OneJoy$Seen" "common" "I" ∈ fw_tb := fw_in2 107 rfl rfl
theorem wF_Seen_81 : Cond.fieldLink "OneJoy$Seen" 81 "OneJoy$Seen" "chosen" "I" ∈ fw_tb := fw_in2 109 rfl rfl
theorem wF_Spread_11 : Cond.fieldLink "OneJoy$Spread" 11 "OneJoy$Spread" "now" "[J" ∈ fw_tb := fw_in2 83 rfl rfl
theorem wF_Spread_17 : Cond.fieldLink "OneJoy$Spread" 17 "OneJoy$Spread" "then" "[J" ∈ fw_tb := fw_in2 84 rfl rfl
theorem wF_Spread_20 : Cond.fieldLink "OneJoy$Spread" 20 "OneJoy$Spread" "walk" "LOneJoy$Walk;" ∈ fw_tb := fw_in2 82 rfl rfl
theorem wF_Spread_42 : Cond.fieldLink "OneJoy$Spread" 42 "OneJoy$Walk" "time" "I" ∈ fw_tb := fw_in2 4 rfl rfl
theorem wF_Spread_88 : Cond.fieldLink "OneJoy$Spread" 88 "OneJoy$Walk" "at" "I" ∈ fw_tb := fw_in1 237 rfl rfl
theorem wF_Spread_91 : Cond.fieldLink "OneJoy$Spread" 91 "OneJoy$Walk" "place" "LOneJoy$Village;" ∈ fw_tb := fw_in1 232 rfl rfl
theorem wF_Tape_15 : Cond.fieldLink "OneJoy$Tape" 15 "OneJoy$Tape" "fault" "I" ∈ fw_tb := fw_in1 43 rfl rfl
theorem wF_Tape_19 : Cond.fieldLink "OneJoy$Tape" 19 "OneJoy$Tape" "length" "I" ∈ fw_tb := fw_in1 41 rfl rfl
theorem wF_Tape_28 : Cond.fieldLink "OneJoy$Tape" 28 "OneJoy$Tape" "next" "I" ∈ fw_tb := fw_in1 42 rfl rfl
theorem wF_Tape_9 : Cond.fieldLink "OneJoy$Tape" 9 "OneJoy$Tape" "bytes" "[I" ∈ fw_tb := fw_in1 40 rfl rfl
theorem wF_VText_12 : Cond.fieldLink "OneJoy$VillageText" 12 "OneJoy$VillageText" "draft" "LOneJoy$Village;" ∈ fw_tb := fw_in1 143 rfl rfl
theorem wF_VText_18 : Cond.fieldLink "OneJoy$VillageText" 18 "OneJoy$VillageText" "values" "[I" ∈ fw_tb := fw_in1 145 rfl rfl
theorem wF_VText_22 : Cond.fieldLink "OneJoy$VillageText" 22 "OneJoy$VillageText" "tape" "LOneJoy$Tape;" ∈ fw_tb := fw_in1 142 rfl rfl
theorem wF_VText_34 : Cond.fieldLink "OneJoy$VillageText" 34 "OneJoy$VillageText" "told" "Z" ∈ fw_tb := fw_in1 146 rfl rfl
theorem wF_VText_61 : Cond.fieldLink "OneJoy$VillageText" 61 "OneJoy$VillageText" "VILLAGE_MOST" "[I" ∈ fw_tb := fw_in2 233 rfl rfl
theorem wF_VText_64 : Cond.fieldLink "OneJoy$VillageText" 64 "OneJoy$VillageText" "VILLAGE_FIRST" "[I" ∈ fw_tb := fw_in2 235 rfl rfl
theorem wF_VText_75 : Cond.fieldLink "OneJoy$VillageText" 75 "OneJoy$Village" "houses" "I" ∈ fw_tb := fw_in1 68 rfl rfl
theorem wF_VText_81 : Cond.fieldLink "OneJoy$VillageText" 81 "OneJoy$VillageText" "HOUSE_MOST" "[I" ∈ fw_tb := fw_in3 128 rfl rfl
theorem wF_VText_84 : Cond.fieldLink "OneJoy$VillageText" 84 "OneJoy$VillageText" "HOUSE_FIRST" "[I" ∈ fw_tb := fw_in3 130 rfl rfl
theorem wF_VText_90 : Cond.fieldLink "OneJoy$VillageText" 90 "OneJoy$Village" "windows" "I" ∈ fw_tb := fw_in1 72 rfl rfl
theorem wF_VText_95 : Cond.fieldLink "OneJoy$VillageText" 95 "OneJoy$VillageText" "WINDOW_MOST" "[I" ∈ fw_tb := fw_in3 138 rfl rfl
theorem wF_VText_98 : Cond.fieldLink "OneJoy$VillageText" 98 "OneJoy$VillageText" "WINDOW_FIRST" "[I" ∈ fw_tb := fw_in3 140 rfl rfl
theorem wF_Vil_15 : Cond.fieldLink "OneJoy$Village" 15 "OneJoy$Village" "laughs" "[I" ∈ fw_tb := fw_in1 76 rfl rfl
theorem wF_Vil_18 : Cond.fieldLink "OneJoy$Village" 18 "OneJoy$Village" "ends" "[I" ∈ fw_tb := fw_in1 78 rfl rfl
theorem wF_Vil_21 : Cond.fieldLink "OneJoy$Village" 21 "OneJoy$Village" "at" "I" ∈ fw_tb := fw_in1 98 rfl rfl
theorem wF_Vil_25 : Cond.fieldLink "OneJoy$Village" 25 "OneJoy$Village" "before" "I" ∈ fw_tb := fw_in1 102 rfl rfl
theorem wF_Vil_28 : Cond.fieldLink "OneJoy$Village" 28 "OneJoy$Village" "log" "[I" ∈ fw_tb := fw_in1 109 rfl rfl
theorem wF_Vil_31 : Cond.fieldLink "OneJoy$Village" 31 "OneJoy$Village" "houses" "I" ∈ fw_tb := fw_in1 66 rfl rfl
theorem wF_Vil_34 : Cond.fieldLink "OneJoy$Village" 34 "OneJoy$Village" "windows" "I" ∈ fw_tb := fw_in1 71 rfl rfl
theorem wF_Vil_43 : Cond.fieldLink "OneJoy$Village" 43 "OneJoy$Village" "oneWays" "I" ∈ fw_tb := fw_in1 79 rfl rfl
theorem wF_Vil_46 : Cond.fieldLink "OneJoy$Village" 46 "OneJoy$Village" "shuts" "I" ∈ fw_tb := fw_in1 81 rfl rfl
theorem wF_Vil_49 : Cond.fieldLink "OneJoy$Village" 49 "OneJoy$Village" "backs" "I" ∈ fw_tb := fw_in1 87 rfl rfl
theorem wF_Vil_52 : Cond.fieldLink "OneJoy$Village" 52 "OneJoy$Village" "music" "Z" ∈ fw_tb := fw_in1 91 rfl rfl
theorem wF_Vil_56 : Cond.fieldLink "OneJoy$Village" 56 "OneJoy$Village" "fog" "Z" ∈ fw_tb := fw_in1 95 rfl rfl
theorem wF_Vil_59 : Cond.fieldLink "OneJoy$Village" 59 "OneJoy$Village" "hour" "I" ∈ fw_tb := fw_in1 106 rfl rfl
theorem wF_Vil_62 : Cond.fieldLink "OneJoy$Village" 62 "OneJoy$Village" "hoursLogged" "I" ∈ fw_tb := fw_in1 110 rfl rfl
theorem wF_Vil_9 : Cond.fieldLink "OneJoy$Village" 9 "OneJoy$Village" "traits" "[I" ∈ fw_tb := fw_in1 75 rfl rfl
theorem wF_Walk_14 : Cond.fieldLink "OneJoy$Walk" 14 "OneJoy$Walk" "place" "LOneJoy$Village;" ∈ fw_tb := fw_in1 230 rfl rfl
theorem wF_Walk_146 : Cond.fieldLink "OneJoy$Walk" 146 "OneJoy$Village" "music" "Z" ∈ fw_tb := fw_in1 93 rfl rfl
theorem wF_Walk_174 : Cond.fieldLink "OneJoy$Walk" 174 "OneJoy$Walk" "met" "I" ∈ fw_tb := fw_in2 19 rfl rfl
theorem wF_Walk_177 : Cond.fieldLink "OneJoy$Walk" 177 "OneJoy$Walk" "lead" "I" ∈ fw_tb := fw_in2 15 rfl rfl
theorem wF_Walk_18 : Cond.fieldLink "OneJoy$Walk" 18 "OneJoy$Walk" "doors" "[I" ∈ fw_tb := fw_in2 9 rfl rfl
theorem wF_Walk_180 : Cond.fieldLink "OneJoy$Walk" 180 "OneJoy$Walk" "loop" "I" ∈ fw_tb := fw_in2 17 rfl rfl
theorem wF_Walk_22 : Cond.fieldLink "OneJoy$Walk" 22 "OneJoy$Walk" "doorCounts" "[I" ∈ fw_tb := fw_in2 10 rfl rfl
theorem wF_Walk_25 : Cond.fieldLink "OneJoy$Walk" 25 "OneJoy$Walk" "wishes" "[I" ∈ fw_tb := fw_in2 11 rfl rfl
theorem wF_Walk_28 : Cond.fieldLink "OneJoy$Walk" 28 "OneJoy$Walk" "letters" "[I" ∈ fw_tb := fw_in2 12 rfl rfl
theorem wF_Walk_31 : Cond.fieldLink "OneJoy$Walk" 31 "OneJoy$Walk" "trail" "[I" ∈ fw_tb := fw_in2 13 rfl rfl
theorem wF_Walk_34 : Cond.fieldLink "OneJoy$Walk" 34 "OneJoy$Walk" "trailBase" "I" ∈ fw_tb := fw_in2 14 rfl rfl
theorem wF_Walk_42 : Cond.fieldLink "OneJoy$Walk" 42 "OneJoy$Walk" "law" "LOneJoy$Law;" ∈ fw_tb := fw_in1 233 rfl rfl
theorem wF_Walk_46 : Cond.fieldLink "OneJoy$Walk" 46 "OneJoy$Village" "backs" "I" ∈ fw_tb := fw_in1 86 rfl rfl
theorem wF_Walk_49 : Cond.fieldLink "OneJoy$Walk" 49 "OneJoy$Walk" "backs" "I" ∈ fw_tb := fw_in2 6 rfl rfl
theorem wF_Walk_54 : Cond.fieldLink "OneJoy$Walk" 54 "OneJoy$Walk" "envious" "I" ∈ fw_tb := fw_in2 7 rfl rfl
theorem wF_Walk_57 : Cond.fieldLink "OneJoy$Walk" 57 "OneJoy$Village" "houses" "I" ∈ fw_tb := fw_in1 67 rfl rfl
theorem wF_Walk_64 : Cond.fieldLink "OneJoy$Walk" 64 "OneJoy$Village" "shuts" "I" ∈ fw_tb := fw_in1 82 rfl rfl
theorem wF_Walk_73 : Cond.fieldLink "OneJoy$Walk" 73 "OneJoy$Village" "at" "I" ∈ fw_tb := fw_in1 99 rfl rfl
theorem wF_Walk_76 : Cond.fieldLink "OneJoy$Walk" 76 "OneJoy$Village" "before" "I" ∈ fw_tb := fw_in1 103 rfl rfl
theorem wF_Walk_79 : Cond.fieldLink "OneJoy$Walk" 79 "OneJoy$Village" "hour" "I" ∈ fw_tb := fw_in1 107 rfl rfl
theorem wF_Walk_86 : Cond.fieldLink "OneJoy$Walk" 86 "OneJoy$Walk" "at" "I" ∈ fw_tb := fw_in1 235 rfl rfl
theorem wF_Walk_87 : Cond.fieldLink "OneJoy$Walk" 87 "OneJoy$Walk" "before" "I" ∈ fw_tb := fw_in2 0 rfl rfl
theorem wF_Walk_88 : Cond.fieldLink "OneJoy$Walk" 88 "OneJoy$Walk" "time" "I" ∈ fw_tb := fw_in2 3 rfl rfl
theorem wF_Ways_107 : Cond.fieldLink "OneJoy$Ways" 107 "OneJoy$Ways" "feaster" "I" ∈ fw_tb := fw_in2 63 rfl rfl
theorem wF_Ways_113 : Cond.fieldLink "OneJoy$Ways" 113 "OneJoy$Village" "houses" "I" ∈ fw_tb := fw_in1 70 rfl rfl
theorem wF_Ways_128 : Cond.fieldLink "OneJoy$Ways" 128 "OneJoy$Village" "backs" "I" ∈ fw_tb := fw_in1 90 rfl rfl
theorem wF_Ways_15 : Cond.fieldLink "OneJoy$Ways" 15 "OneJoy$Ways" "walk" "LOneJoy$Walk;" ∈ fw_tb := fw_in2 60 rfl rfl
theorem wF_Ways_19 : Cond.fieldLink "OneJoy$Ways" 19 "OneJoy$Ways" "goal" "I" ∈ fw_tb := fw_in2 61 rfl rfl
theorem wF_Ways_23 : Cond.fieldLink "OneJoy$Ways" 23 "OneJoy$Ways" "best" "I" ∈ fw_tb := fw_in2 62 rfl rfl
theorem wF_Ways_26 : Cond.fieldLink "OneJoy$Ways" 26 "OneJoy$Walk" "backs" "I" ∈ fw_tb := fw_in2 5 rfl rfl
theorem wF_Ways_43 : Cond.fieldLink "OneJoy$Ways" 43 "OneJoy$Walk" "at" "I" ∈ fw_tb := fw_in1 234 rfl rfl
theorem wF_Ways_46 : Cond.fieldLink "OneJoy$Ways" 46 "OneJoy$Walk" "before" "I" ∈ fw_tb := fw_in1 239 rfl rfl
theorem wF_Ways_49 : Cond.fieldLink "OneJoy$Ways" 49 "OneJoy$Walk" "time" "I" ∈ fw_tb := fw_in2 2 rfl rfl
theorem wF_Ways_81 : Cond.fieldLink "OneJoy$Ways" 81 "OneJoy$Walk" "place" "LOneJoy$Village;" ∈ fw_tb := fw_in1 231 rfl rfl
theorem wF_Ways_85 : Cond.fieldLink "OneJoy$Ways" 85 "OneJoy$Village" "windows" "I" ∈ fw_tb := fw_in1 73 rfl rfl
theorem wF_Ways_9 : Cond.fieldLink "OneJoy$Ways" 9 "OneJoy$Ways" "gains" "[I" ∈ fw_tb := fw_in2 64 rfl rfl
theorem wF_Ways_94 : Cond.fieldLink "OneJoy$Ways" 94 "OneJoy$Village" "shuts" "I" ∈ fw_tb := fw_in1 84 rfl rfl
theorem wI_Acts : Cond.initialized "OneJoy$Acts" ∈ fw_tb := fw_in1 7 rfl rfl
theorem wI_JArr : Cond.initialized "java/util/Arrays" ∈ fw_tb := fw_in1 14 rfl rfl
theorem wI_JInt : Cond.initialized "java/lang/Integer" ∈ fw_tb := fw_in1 25 rfl rfl
theorem wI_JLat : Cond.initialized "java/lang/StringLatin1" ∈ fw_tb := fw_in1 16 rfl rfl
theorem wI_JStr : Cond.initialized "java/lang/String" ∈ fw_tb := fw_in1 15 rfl rfl
theorem wI_Joy : Cond.initialized "OneJoy" ∈ fw_tb := fw_in1 1 rfl rfl
theorem wI_LText : Cond.initialized "OneJoy$LawText" ∈ fw_tb := fw_in1 5 rfl rfl
theorem wI_Law : Cond.initialized "OneJoy$Law" ∈ fw_tb := fw_in1 6 rfl rfl
theorem wI_Mod : Cond.initialized "OneJoyModel" ∈ fw_tb := fw_in1 12 rfl rfl
theorem wI_Rows : Cond.initialized "OneJoy$Rows" ∈ fw_tb := fw_in1 13 rfl rfl
theorem wI_Seen : Cond.initialized "OneJoy$Seen" ∈ fw_tb := fw_in1 11 rfl rfl
theorem wI_Spread : Cond.initialized "OneJoy$Spread" ∈ fw_tb := fw_in1 10 rfl rfl
theorem wI_Tape : Cond.initialized "OneJoy$Tape" ∈ fw_tb := fw_in1 2 rfl rfl
theorem wI_VText : Cond.initialized "OneJoy$VillageText" ∈ fw_tb := fw_in1 3 rfl rfl
theorem wI_Vil : Cond.initialized "OneJoy$Village" ∈ fw_tb := fw_in1 4 rfl rfl
theorem wI_Walk : Cond.initialized "OneJoy$Walk" ∈ fw_tb := fw_in1 8 rfl rfl
theorem wI_Ways : Cond.initialized "OneJoy$Ways" ∈ fw_tb := fw_in1 9 rfl rfl
theorem wK_JInt_265 : Cond.constant "java/lang/Integer" 265 (1431655765) ∈ fw_tb := fw_in5 90 rfl rfl
theorem wK_JInt_266 : Cond.constant "java/lang/Integer" 266 (858993459) ∈ fw_tb := fw_in5 91 rfl rfl
theorem wK_JInt_267 : Cond.constant "java/lang/Integer" 267 (252645135) ∈ fw_tb := fw_in5 92 rfl rfl
theorem wK_Joy_197 : Cond.constant "OneJoy" 197 (-1000000) ∈ fw_tb := fw_in4 54 rfl rfl
theorem wK_Law_45 : Cond.constant "OneJoy$Law" 45 (120000) ∈ fw_tb := fw_in3 222 rfl rfl
theorem wK_Mod_291 : Cond.constant "OneJoyModel" 291 (-1000000) ∈ fw_tb := fw_in8 24 rfl rfl
theorem wK_Walk_158 : Cond.constant "OneJoy$Walk" 158 (2000000000) ∈ fw_tb := fw_in5 40 rfl rfl
theorem wL_Joy_241 : Cond.constantLong "OneJoy" 241 (6364136223846793005) ∈ fw_tb := fw_in4 181 rfl rfl
theorem wL_Joy_243 : Cond.constantLong "OneJoy" 243 (1442695040888963407) ∈ fw_tb := fw_in4 182 rfl rfl
theorem wL_Joy_245 : Cond.constantLong "OneJoy" 245 (100) ∈ fw_tb := fw_in4 183 rfl rfl
theorem wL_Joy_310 : Cond.constantLong "OneJoy" 310 (1000) ∈ fw_tb := fw_in5 215 rfl rfl
theorem wL_Law0_94 : Cond.constantLong "OneJoyLaw" 94 (4294967295) ∈ fw_tb := fw_in9 38 rfl rfl
theorem wL_Law_54 : Cond.constantLong "OneJoy$Law" 54 (1000000) ∈ fw_tb := fw_in4 101 rfl rfl
theorem wL_Law_56 : Cond.constantLong "OneJoy$Law" 56 (-1000000) ∈ fw_tb := fw_in4 102 rfl rfl
theorem wL_Mod_186 : Cond.constantLong "OneJoyModel" 186 (-1000000) ∈ fw_tb := fw_in8 18 rfl rfl
theorem wL_Mod_188 : Cond.constantLong "OneJoyModel" 188 (1000000) ∈ fw_tb := fw_in8 19 rfl rfl
theorem wL_Mod_324 : Cond.constantLong "OneJoyModel" 324 (6364136223846793005) ∈ fw_tb := fw_in8 97 rfl rfl
theorem wL_Mod_326 : Cond.constantLong "OneJoyModel" 326 (1442695040888963407) ∈ fw_tb := fw_in8 98 rfl rfl
theorem wL_Mod_328 : Cond.constantLong "OneJoyModel" 328 (100) ∈ fw_tb := fw_in8 99 rfl rfl
theorem wL_Mod_395 : Cond.constantLong "OneJoyModel" 395 (1000000000) ∈ fw_tb := fw_in8 200 rfl rfl
theorem wL_Mod_407 : Cond.constantLong "OneJoyModel" 407 (1000) ∈ fw_tb := fw_in8 213 rfl rfl
theorem wL_Spread_50 : Cond.constantLong "OneJoy$Spread" 50 (100) ∈ fw_tb := fw_in5 202 rfl rfl
theorem wL_Spread_62 : Cond.constantLong "OneJoy$Spread" 62 (1000000000) ∈ fw_tb := fw_in5 197 rfl rfl
theorem wL_Spread_82 : Cond.constantLong "OneJoy$Spread" 82 (1000) ∈ fw_tb := fw_in5 111 rfl rfl
theorem wM_Acts_3 : Cond.methodLink "OneJoy$Acts" 3 ⟨"java/lang/Object", "<init>", "()V"⟩ ∈ fw_tb := fw_in1 202 rfl rfl
theorem wM_Acts_31 : Cond.methodLink "OneJoy$Acts" 31 ⟨"OneJoy$Rows", "put", "([III)V"⟩ ∈ fw_tb := fw_in4 137 rfl rfl
theorem wM_Acts_45 : Cond.methodLink "OneJoy$Acts" 45 ⟨"java/lang/Math", "min", "(II)I"⟩ ∈ fw_tb := fw_in4 138 rfl rfl
theorem wM_Acts_51 : Cond.methodLink "OneJoy$Acts" 51 ⟨"OneJoy$Rows", "get", "([II)I"⟩ ∈ fw_tb := fw_in4 237 rfl rfl
theorem wM_Acts_55 : Cond.methodLink "OneJoy$Acts" 55 ⟨"OneJoy$Acts", "restore", "(IILOneJoy$Village;)V"⟩ ∈ fw_tb := fw_in4 238 rfl rfl
theorem wM_Acts_72 : Cond.methodLink "OneJoy$Acts" 72 ⟨"OneJoy$Village", "want", "(II)V"⟩ ∈ fw_tb := fw_in5 1 rfl rfl
theorem wM_Acts_76 : Cond.methodLink "OneJoy$Acts" 76 ⟨"OneJoy$Village", "takeHourBack", "()V"⟩ ∈ fw_tb := fw_in5 2 rfl rfl
theorem wM_JLat_38 : Cond.methodLink "java/lang/StringLatin1" 38 ⟨"java/lang/Math", "min", "(II)I"⟩ ∈ fw_tb := fw_in3 40 rfl rfl
theorem wM_JLat_88 : Cond.methodLink "java/lang/StringLatin1" 88 ⟨"java/lang/StringLatin1", "canEncode", "(I)Z"⟩ ∈ fw_tb := fw_in3 34 rfl rfl
theorem wM_JLat_92 : Cond.methodLink "java/lang/StringLatin1" 92 ⟨"java/lang/Math", "max", "(II)I"⟩ ∈ fw_tb := fw_in3 37 rfl rfl
theorem wM_JLat_95 : Cond.methodLink "java/lang/StringLatin1" 95 ⟨"java/lang/StringLatin1", "indexOfChar", "([BIII)I"⟩ ∈ fw_tb := fw_in3 43 rfl rfl
theorem wM_JStr_335 : Cond.methodLink "java/lang/String" 335 ⟨"java/lang/String", "coder", "()B"⟩ ∈ fw_tb := fw_in3 12 rfl rfl
theorem wM_JStr_492 : Cond.methodLink "java/lang/String" 492 ⟨"java/lang/String", "isLatin1", "()Z"⟩ ∈ fw_tb := fw_in3 26 rfl rfl
theorem wM_JStr_505 : Cond.methodLink "java/lang/String" 505 ⟨"java/lang/String", "length", "()I"⟩ ∈ fw_tb := fw_in3 30 rfl rfl
theorem wM_JStr_633 : Cond.methodLink "java/lang/String" 633 ⟨"java/lang/String", "indexOf", "(II)I"⟩ ∈ fw_tb := fw_in3 22 rfl rfl
theorem wM_JStr_637 : Cond.methodLink "java/lang/String" 637 ⟨"java/lang/StringLatin1", "indexOf", "([BIII)I"⟩ ∈ fw_tb := fw_in3 31 rfl rfl
theorem wM_Joy_1 : Cond.methodLink "OneJoy" 1 ⟨"java/lang/Object", "<init>", "()V"⟩ ∈ fw_tb := fw_in1 31 rfl rfl
theorem wM_Joy_102 : Cond.methodLink "OneJoy" 102 ⟨"OneJoy$Tape", "add", "(I)V"⟩ ∈ fw_tb := fw_in2 190 rfl rfl
theorem wM_Joy_106 : Cond.methodLink "OneJoy" 106 ⟨"OneJoy$Tape", "cut", "(I)Z"⟩ ∈ fw_tb := fw_in2 201 rfl rfl
theorem wM_Joy_110 : Cond.methodLink "OneJoy" 110 ⟨"OneJoy$VillageText", "read", "()I"⟩ ∈ fw_tb := fw_in2 209 rfl rfl
theorem wM_Joy_113 : Cond.methodLink "OneJoy" 113 ⟨"OneJoy$LawText", "read", "()I"⟩ ∈ fw_tb := fw_in3 174 rfl rfl
theorem wM_Joy_114 : Cond.methodLink "OneJoy" 114 ⟨"OneJoy", "settle", "()I"⟩ ∈ fw_tb := fw_in4 6 rfl rfl
theorem wM_Joy_120 : Cond.methodLink "OneJoy" 120 ⟨"OneJoy", "enact", "()I"⟩ ∈ fw_tb := fw_in4 23 rfl rfl
theorem wM_Joy_126 : Cond.methodLink "OneJoy" 126 ⟨"OneJoy$Village", "take", "(LOneJoy$Village;)V"⟩ ∈ fw_tb := fw_in4 10 rfl rfl
theorem wM_Joy_130 : Cond.methodLink "OneJoy" 130 ⟨"OneJoy$Acts", "clear", "()V"⟩ ∈ fw_tb := fw_in4 15 rfl rfl
theorem wM_Joy_133 : Cond.methodLink "OneJoy" 133 ⟨"OneJoy$Seen", "clear", "()V"⟩ ∈ fw_tb := fw_in4 19 rfl rfl
theorem wM_Joy_143 : Cond.methodLink "OneJoy" 143 ⟨"OneJoy$Law", "take", "(LOneJoy$Law;)V"⟩ ∈ fw_tb := fw_in4 27 rfl rfl
theorem wM_Joy_146 : Cond.methodLink "OneJoy" 146 ⟨"OneJoy$Village", "hasHouse", "(I)Z"⟩ ∈ fw_tb := fw_in4 53 rfl rfl
theorem wM_Joy_152 : Cond.methodLink "OneJoy" 152 ⟨"OneJoy$Village", "trait", "(II)I"⟩ ∈ fw_tb := fw_in4 159 rfl rfl
theorem wM_Joy_159 : Cond.methodLink "OneJoy" 159 ⟨"OneJoy$Rows", "has", "(II)Z"⟩ ∈ fw_tb := fw_in4 41 rfl rfl
theorem wM_Joy_165 : Cond.methodLink "OneJoy" 165 ⟨"OneJoy", "bit", "(Z)I"⟩ ∈ fw_tb := fw_in4 42 rfl rfl
theorem wM_Joy_173 : Cond.methodLink "OneJoy" 173 ⟨"OneJoy$Rows", "get", "([II)I"⟩ ∈ fw_tb := fw_in6 52 rfl rfl
theorem wM_Joy_177 : Cond.methodLink "OneJoy" 177 ⟨"OneJoy$Village", "hasWindow", "(I)Z"⟩ ∈ fw_tb := fw_in4 36 rfl rfl
theorem wM_Joy_18 : Cond.methodLink "OneJoy" 18 ⟨"OneJoy$VillageText", "<init>", "(LOneJoy$Tape;)V"⟩ ∈ fw_tb := fw_in1 56 rfl rfl
theorem wM_Joy_180 : Cond.methodLink "OneJoy" 180 ⟨"OneJoy$Village", "endOf", "(II)I"⟩ ∈ fw_tb := fw_in4 40 rfl rfl
theorem wM_Joy_189 : Cond.methodLink "OneJoy" 189 ⟨"OneJoy", "lawInForce", "()LOneJoy$Law;"⟩ ∈ fw_tb := fw_in4 59 rfl rfl
theorem wM_Joy_193 : Cond.methodLink "OneJoy" 193 ⟨"OneJoy$Walk", "start", "(LOneJoy$Village;LOneJoy$Law;)V"⟩ ∈ fw_tb := fw_in4 63 rfl rfl
theorem wM_Joy_198 : Cond.methodLink "OneJoy" 198 ⟨"OneJoy", "startWalk", "()V"⟩ ∈ fw_tb := fw_in4 55 rfl rfl
theorem wM_Joy_201 : Cond.methodLink "OneJoy" 201 ⟨"OneJoy$Walk", "wishOf", "(I)I"⟩ ∈ fw_tb := fw_in4 124 rfl rfl
theorem wM_Joy_204 : Cond.methodLink "OneJoy" 204 ⟨"OneJoy$Acts", "keep", "(IILOneJoy$Village;)V"⟩ ∈ fw_tb := fw_in4 133 rfl rfl
theorem wM_Joy_208 : Cond.methodLink "OneJoy" 208 ⟨"OneJoy$Village", "isNone", "()Z"⟩ ∈ fw_tb := fw_in4 147 rfl rfl
theorem wM_Joy_218 : Cond.methodLink "OneJoy" 218 ⟨"OneJoy$Village", "want", "(II)V"⟩ ∈ fw_tb := fw_in4 160 rfl rfl
theorem wM_Joy_225 : Cond.methodLink "OneJoy" 225 ⟨"OneJoy$Village", "threeOn", "(I)I"⟩ ∈ fw_tb := fw_in4 169 rfl rfl
theorem wM_Joy_231 : Cond.methodLink "OneJoy" 231 ⟨"OneJoy", "letHoursGo", "(IIJ)I"⟩ ∈ fw_tb := fw_in4 177 rfl rfl
theorem wM_Joy_247 : Cond.methodLink "OneJoy" 247 ⟨"OneJoy$Walk", "stay", "()V"⟩ ∈ fw_tb := fw_in4 184 rfl rfl
theorem wM_Joy_250 : Cond.methodLink "OneJoy" 250 ⟨"OneJoy$Walk", "hour", "()V"⟩ ∈ fw_tb := fw_in4 188 rfl rfl
theorem wM_Joy_254 : Cond.methodLink "OneJoy" 254 ⟨"OneJoy$Village", "passHour", "(II)V"⟩ ∈ fw_tb := fw_in4 209 rfl rfl
theorem wM_Joy_257 : Cond.methodLink "OneJoy" 257 ⟨"OneJoy$Acts", "undoLatest", "(LOneJoy$Village;)I"⟩ ∈ fw_tb := fw_in4 233 rfl rfl
theorem wM_Joy_261 : Cond.methodLink "OneJoy" 261 ⟨"OneJoy$Village", "logged", "(I)I"⟩ ∈ fw_tb := fw_in5 10 rfl rfl
theorem wM_Joy_264 : Cond.methodLink "OneJoy" 264 ⟨"OneJoy$Walk", "hours", "(I)V"⟩ ∈ fw_tb := fw_in5 23 rfl rfl
theorem wM_Joy_267 : Cond.methodLink "OneJoy" 267 ⟨"OneJoy$Walk", "hoursTo", "(I)I"⟩ ∈ fw_tb := fw_in5 32 rfl rfl
theorem wM_Joy_27 : Cond.methodLink "OneJoy" 27 ⟨"OneJoy$LawText", "<init>", "(LOneJoy$Tape;)V"⟩ ∈ fw_tb := fw_in1 158 rfl rfl
theorem wM_Joy_270 : Cond.methodLink "OneJoy" 270 ⟨"OneJoy$Walk", "circle", "()V"⟩ ∈ fw_tb := fw_in5 54 rfl rfl
theorem wM_Joy_279 : Cond.methodLink "OneJoy" 279 ⟨"OneJoy$Village", "all", "()I"⟩ ∈ fw_tb := fw_in5 62 rfl rfl
theorem wM_Joy_285 : Cond.methodLink "OneJoy" 285 ⟨"OneJoy$Walk", "metInLoop", "()I"⟩ ∈ fw_tb := fw_in5 67 rfl rfl
theorem wM_Joy_288 : Cond.methodLink "OneJoy" 288 ⟨"OneJoy$Ways", "fewestTurns", "(II)I"⟩ ∈ fw_tb := fw_in5 75 rfl rfl
theorem wM_Joy_291 : Cond.methodLink "OneJoy" 291 ⟨"OneJoy$Spread", "fewestLies", "(II)I"⟩ ∈ fw_tb := fw_in5 107 rfl rfl
theorem wM_Joy_294 : Cond.methodLink "OneJoy" 294 ⟨"OneJoy$Ways", "fewestShutters", "(I)I"⟩ ∈ fw_tb := fw_in5 152 rfl rfl
theorem wM_Joy_297 : Cond.methodLink "OneJoy" 297 ⟨"OneJoy$Ways", "leastFeast", "(II)I"⟩ ∈ fw_tb := fw_in5 167 rfl rfl
theorem wM_Joy_300 : Cond.methodLink "OneJoy" 300 ⟨"OneJoy$Ways", "feaster", "()I"⟩ ∈ fw_tb := fw_in5 185 rfl rfl
theorem wM_Joy_303 : Cond.methodLink "OneJoy" 303 ⟨"OneJoy$Spread", "partsAt", "(III)J"⟩ ∈ fw_tb := fw_in5 193 rfl rfl
theorem wM_Joy_307 : Cond.methodLink "OneJoy" 307 ⟨"OneJoy$Spread", "partsTogether", "(III)J"⟩ ∈ fw_tb := fw_in5 211 rfl rfl
theorem wM_Joy_312 : Cond.methodLink "OneJoy" 312 ⟨"OneJoy$Village", "areTwo", "(II)Z"⟩ ∈ fw_tb := fw_in5 220 rfl rfl
theorem wM_Joy_315 : Cond.methodLink "OneJoy" 315 ⟨"OneJoy$Ways", "gain", "(IIII)I"⟩ ∈ fw_tb := fw_in5 221 rfl rfl
theorem wM_Joy_319 : Cond.methodLink "OneJoy" 319 ⟨"OneJoy$Ways", "rest", "(III)I"⟩ ∈ fw_tb := fw_in5 229 rfl rfl
theorem wM_Joy_323 : Cond.methodLink "OneJoy" 323 ⟨"OneJoy$Seen", "add", "(II)I"⟩ ∈ fw_tb := fw_in6 0 rfl rfl
theorem wM_Joy_325 : Cond.methodLink "OneJoy" 325 ⟨"OneJoy$Seen", "ask", "(II)V"⟩ ∈ fw_tb := fw_in6 9 rfl rfl
theorem wM_Joy_337 : Cond.methodLink "OneJoy" 337 ⟨"OneJoy$Village", "lowestOpen", "(II)I"⟩ ∈ fw_tb := fw_in6 35 rfl rfl
theorem wM_Joy_34 : Cond.methodLink "OneJoy" 34 ⟨"OneJoy$Village", "<init>", "()V"⟩ ∈ fw_tb := fw_in1 193 rfl rfl
theorem wM_Joy_340 : Cond.methodLink "OneJoy" 340 ⟨"OneJoy$Village", "watchers", "(II)I"⟩ ∈ fw_tb := fw_in6 47 rfl rfl
theorem wM_Joy_346 : Cond.methodLink "OneJoy" 346 ⟨"OneJoy$Village", "laughsTogether", "()I"⟩ ∈ fw_tb := fw_in6 69 rfl rfl
theorem wM_Joy_349 : Cond.methodLink "OneJoy" 349 ⟨"OneJoy$Seen", "size", "()I"⟩ ∈ fw_tb := fw_in6 73 rfl rfl
theorem wM_Joy_350 : Cond.methodLink "OneJoy" 350 ⟨"OneJoy$Village", "logLength", "()I"⟩ ∈ fw_tb := fw_in6 77 rfl rfl
theorem wM_Joy_353 : Cond.methodLink "OneJoy" 353 ⟨"OneJoy$Acts", "size", "()I"⟩ ∈ fw_tb := fw_in6 78 rfl rfl
theorem wM_Joy_44 : Cond.methodLink "OneJoy" 44 ⟨"OneJoy$Law", "<init>", "()V"⟩ ∈ fw_tb := fw_in1 195 rfl rfl
theorem wM_Joy_59 : Cond.methodLink "OneJoy" 59 ⟨"OneJoy$Acts", "<init>", "()V"⟩ ∈ fw_tb := fw_in1 199 rfl rfl
theorem wM_Joy_66 : Cond.methodLink "OneJoy" 66 ⟨"OneJoy$Walk", "<init>", "()V"⟩ ∈ fw_tb := fw_in1 224 rfl rfl
theorem wM_Joy_73 : Cond.methodLink "OneJoy" 73 ⟨"OneJoy$Ways", "<init>", "(LOneJoy$Walk;)V"⟩ ∈ fw_tb := fw_in2 56 rfl rfl
theorem wM_Joy_82 : Cond.methodLink "OneJoy" 82 ⟨"OneJoy$Spread", "<init>", "(LOneJoy$Walk;)V"⟩ ∈ fw_tb := fw_in2 78 rfl rfl
theorem wM_Joy_89 : Cond.methodLink "OneJoy" 89 ⟨"OneJoy$Seen", "<init>", "(LOneJoy$Walk;)V"⟩ ∈ fw_tb := fw_in2 95 rfl rfl
theorem wM_Joy_9 : Cond.methodLink "OneJoy" 9 ⟨"OneJoy$Tape", "<init>", "()V"⟩ ∈ fw_tb := fw_in1 36 rfl rfl
theorem wM_Joy_94 : Cond.methodLink "OneJoy" 94 ⟨"OneJoy$Tape", "signsOf", "(I)I"⟩ ∈ fw_tb := fw_in2 183 rfl rfl
theorem wM_Joy_98 : Cond.methodLink "OneJoy" 98 ⟨"OneJoy$Tape", "size", "()I"⟩ ∈ fw_tb := fw_in2 186 rfl rfl
theorem wM_LText_11 : Cond.methodLink "OneJoy$LawText" 11 ⟨"OneJoy$Law", "<init>", "()V"⟩ ∈ fw_tb := fw_in1 164 rfl rfl
theorem wM_LText_22 : Cond.methodLink "OneJoy$LawText" 22 ⟨"OneJoy$Tape", "rewind", "()V"⟩ ∈ fw_tb := fw_in3 178 rfl rfl
theorem wM_LText_27 : Cond.methodLink "OneJoy$LawText" 27 ⟨"OneJoy$Law", "clear", "()V"⟩ ∈ fw_tb := fw_in3 179 rfl rfl
theorem wM_LText_3 : Cond.methodLink "OneJoy$LawText" 3 ⟨"java/lang/Object", "<init>", "()V"⟩ ∈ fw_tb := fw_in1 161 rfl rfl
theorem wM_LText_30 : Cond.methodLink "OneJoy$LawText" 30 ⟨"OneJoy$LawText", "clause", "()V"⟩ ∈ fw_tb := fw_in3 183 rfl rfl
theorem wM_LText_33 : Cond.methodLink "OneJoy$LawText" 33 ⟨"OneJoy$Tape", "peek", "()I"⟩ ∈ fw_tb := fw_in3 188 rfl rfl
theorem wM_LText_37 : Cond.methodLink "OneJoy$LawText" 37 ⟨"OneJoy$Tape", "expect", "(I)V"⟩ ∈ fw_tb := fw_in3 187 rfl rfl
theorem wM_LText_41 : Cond.methodLink "OneJoy$LawText" 41 ⟨"OneJoy$Tape", "faultFound", "()I"⟩ ∈ fw_tb := fw_in4 0 rfl rfl
theorem wM_LText_44 : Cond.methodLink "OneJoy$LawText" 44 ⟨"OneJoy$LawText", "condition", "(I)V"⟩ ∈ fw_tb := fw_in3 189 rfl rfl
theorem wM_LText_47 : Cond.methodLink "OneJoy$LawText" 47 ⟨"OneJoy$LawText", "sum", "(I)V"⟩ ∈ fw_tb := fw_in3 201 rfl rfl
theorem wM_LText_50 : Cond.methodLink "OneJoy$LawText" 50 ⟨"OneJoy$LawText", "comparing", "(I)I"⟩ ∈ fw_tb := fw_in3 229 rfl rfl
theorem wM_LText_54 : Cond.methodLink "OneJoy$LawText" 54 ⟨"OneJoy$LawText", "comparison", "(I)V"⟩ ∈ fw_tb := fw_in3 225 rfl rfl
theorem wM_LText_57 : Cond.methodLink "OneJoy$LawText" 57 ⟨"OneJoy$LawText", "moreUnits", "(I)V"⟩ ∈ fw_tb := fw_in3 232 rfl rfl
theorem wM_LText_60 : Cond.methodLink "OneJoy$LawText" 60 ⟨"OneJoy$LawText", "moreTruths", "(I)V"⟩ ∈ fw_tb := fw_in3 236 rfl rfl
theorem wM_LText_63 : Cond.methodLink "OneJoy$LawText" 63 ⟨"OneJoy$Law", "emit", "(II)V"⟩ ∈ fw_tb := fw_in3 216 rfl rfl
theorem wM_LText_67 : Cond.methodLink "OneJoy$LawText" 67 ⟨"OneJoy$LawText", "truth", "(I)V"⟩ ∈ fw_tb := fw_in3 193 rfl rfl
theorem wM_LText_70 : Cond.methodLink "OneJoy$LawText" 70 ⟨"OneJoy$Tape", "skip", "()V"⟩ ∈ fw_tb := fw_in3 215 rfl rfl
theorem wM_LText_73 : Cond.methodLink "OneJoy$LawText" 73 ⟨"OneJoy$LawText", "unit", "(I)V"⟩ ∈ fw_tb := fw_in3 197 rfl rfl
theorem wM_LText_76 : Cond.methodLink "OneJoy$LawText" 76 ⟨"OneJoy$Tape", "fail", "()V"⟩ ∈ fw_tb := fw_in3 224 rfl rfl
theorem wM_LText_79 : Cond.methodLink "OneJoy$LawText" 79 ⟨"OneJoy$LawText", "term", "(I)V"⟩ ∈ fw_tb := fw_in3 205 rfl rfl
theorem wM_LText_82 : Cond.methodLink "OneJoy$LawText" 82 ⟨"OneJoy$LawText", "atom", "(I)V"⟩ ∈ fw_tb := fw_in3 209 rfl rfl
theorem wM_LText_87 : Cond.methodLink "OneJoy$LawText" 87 ⟨"java/lang/String", "indexOf", "(I)I"⟩ ∈ fw_tb := fw_in3 214 rfl rfl
theorem wM_LText_92 : Cond.methodLink "OneJoy$LawText" 92 ⟨"OneJoy$Tape", "number", "(II)I"⟩ ∈ fw_tb := fw_in3 223 rfl rfl
theorem wM_Law0_100 : Cond.methodLink "OneJoyLaw" 100 ⟨"OneJoyModel", "mists", "(IJ)I"⟩ ∈ fw_tb := fw_in8 93 rfl rfl
theorem wM_Law0_101 : Cond.methodLink "OneJoyLaw" 101 ⟨"OneJoy", "undo", "()I"⟩ ∈ fw_tb := fw_in4 229 rfl rfl
theorem wM_Law0_104 : Cond.methodLink "OneJoyLaw" 104 ⟨"OneJoyModel", "undo", "()I"⟩ ∈ fw_tb := fw_in8 100 rfl rfl
theorem wM_Law0_105 : Cond.methodLink "OneJoyLaw" 105 ⟨"OneJoy", "log", "(I)I"⟩ ∈ fw_tb := fw_in5 6 rfl rfl
theorem wM_Law0_108 : Cond.methodLink "OneJoyLaw" 108 ⟨"OneJoyModel", "log", "(I)I"⟩ ∈ fw_tb := fw_in8 104 rfl rfl
theorem wM_Law0_109 : Cond.methodLink "OneJoyLaw" 109 ⟨"OneJoy", "ahead", "(I)I"⟩ ∈ fw_tb := fw_in5 19 rfl rfl
theorem wM_Law0_112 : Cond.methodLink "OneJoyLaw" 112 ⟨"OneJoyModel", "ahead", "(I)I"⟩ ∈ fw_tb := fw_in8 108 rfl rfl
theorem wM_Law0_113 : Cond.methodLink "OneJoyLaw" 113 ⟨"OneJoy", "when", "(I)I"⟩ ∈ fw_tb := fw_in5 28 rfl rfl
theorem wM_Law0_116 : Cond.methodLink "OneJoyLaw" 116 ⟨"OneJoyModel", "when", "(I)I"⟩ ∈ fw_tb := fw_in8 128 rfl rfl
theorem wM_Law0_117 : Cond.methodLink "OneJoyLaw" 117 ⟨"OneJoy", "round", "(I)I"⟩ ∈ fw_tb := fw_in5 50 rfl rfl
theorem wM_Law0_120 : Cond.methodLink "OneJoyLaw" 120 ⟨"OneJoyModel", "round", "(I)I"⟩ ∈ fw_tb := fw_in8 139 rfl rfl
theorem wM_Law0_121 : Cond.methodLink "OneJoyLaw" 121 ⟨"OneJoy", "never", "()I"⟩ ∈ fw_tb := fw_in5 58 rfl rfl
theorem wM_Law0_124 : Cond.methodLink "OneJoyLaw" 124 ⟨"OneJoyModel", "never", "()I"⟩ ∈ fw_tb := fw_in8 143 rfl rfl
theorem wM_Law0_125 : Cond.methodLink "OneJoyLaw" 125 ⟨"OneJoy", "feud", "()I"⟩ ∈ fw_tb := fw_in5 63 rfl rfl
theorem wM_Law0_128 : Cond.methodLink "OneJoyLaw" 128 ⟨"OneJoyModel", "feud", "()I"⟩ ∈ fw_tb := fw_in8 151 rfl rfl
theorem wM_Law0_129 : Cond.methodLink "OneJoyLaw" 129 ⟨"OneJoy", "stand", "(II)I"⟩ ∈ fw_tb := fw_in5 71 rfl rfl
theorem wM_Law0_132 : Cond.methodLink "OneJoyLaw" 132 ⟨"OneJoyModel", "stand", "(II)I"⟩ ∈ fw_tb := fw_in8 155 rfl rfl
theorem wM_Law0_133 : Cond.methodLink "OneJoyLaw" 133 ⟨"OneJoy", "lies", "(II)I"⟩ ∈ fw_tb := fw_in5 103 rfl rfl
theorem wM_Law0_136 : Cond.methodLink "OneJoyLaw" 136 ⟨"OneJoyModel", "lies", "(II)I"⟩ ∈ fw_tb := fw_in8 171 rfl rfl
theorem wM_Law0_137 : Cond.methodLink "OneJoyLaw" 137 ⟨"OneJoy", "shutters", "(I)I"⟩ ∈ fw_tb := fw_in5 148 rfl rfl
theorem wM_Law0_140 : Cond.methodLink "OneJoyLaw" 140 ⟨"OneJoyModel", "shutters", "(I)I"⟩ ∈ fw_tb := fw_in8 184 rfl rfl
theorem wM_Law0_141 : Cond.methodLink "OneJoyLaw" 141 ⟨"OneJoy", "feast", "(III)I"⟩ ∈ fw_tb := fw_in5 163 rfl rfl
theorem wM_Law0_145 : Cond.methodLink "OneJoyLaw" 145 ⟨"OneJoyModel", "feast", "(III)I"⟩ ∈ fw_tb := fw_in8 188 rfl rfl
theorem wM_Law0_146 : Cond.methodLink "OneJoyLaw" 146 ⟨"OneJoy", "odds", "(III)I"⟩ ∈ fw_tb := fw_in5 189 rfl rfl
theorem wM_Law0_149 : Cond.methodLink "OneJoyLaw" 149 ⟨"OneJoyModel", "odds", "(III)I"⟩ ∈ fw_tb := fw_in8 192 rfl rfl
theorem wM_Law0_15 : Cond.methodLink "OneJoyLaw" 15 ⟨"OneJoy", "<init>", "()V"⟩ ∈ fw_tb := fw_in1 28 rfl rfl
theorem wM_Law0_150 : Cond.methodLink "OneJoyLaw" 150 ⟨"OneJoy", "mean", "(III)I"⟩ ∈ fw_tb := fw_in5 207 rfl rfl
theorem wM_Law0_153 : Cond.methodLink "OneJoyLaw" 153 ⟨"OneJoyModel", "mean", "(III)I"⟩ ∈ fw_tb := fw_in8 209 rfl rfl
theorem wM_Law0_154 : Cond.methodLink "OneJoyLaw" 154 ⟨"OneJoy", "pretend", "(IIII)I"⟩ ∈ fw_tb := fw_in5 216 rfl rfl
theorem wM_Law0_158 : Cond.methodLink "OneJoyLaw" 158 ⟨"OneJoyModel", "pretend", "(IIII)I"⟩ ∈ fw_tb := fw_in8 214 rfl rfl
theorem wM_Law0_159 : Cond.methodLink "OneJoyLaw" 159 ⟨"OneJoy", "rests", "(III)I"⟩ ∈ fw_tb := fw_in5 225 rfl rfl
theorem wM_Law0_162 : Cond.methodLink "OneJoyLaw" 162 ⟨"OneJoyModel", "rests", "(III)I"⟩ ∈ fw_tb := fw_in8 226 rfl rfl
theorem wM_Law0_163 : Cond.methodLink "OneJoyLaw" 163 ⟨"OneJoy", "see", "(II)I"⟩ ∈ fw_tb := fw_in5 236 rfl rfl
theorem wM_Law0_166 : Cond.methodLink "OneJoyLaw" 166 ⟨"OneJoyModel", "see", "(II)I"⟩ ∈ fw_tb := fw_in8 230 rfl rfl
theorem wM_Law0_167 : Cond.methodLink "OneJoyLaw" 167 ⟨"OneJoy", "envied", "(I)I"⟩ ∈ fw_tb := fw_in6 5 rfl rfl
theorem wM_Law0_170 : Cond.methodLink "OneJoyLaw" 170 ⟨"OneJoyModel", "envied", "(I)I"⟩ ∈ fw_tb := fw_in8 234 rfl rfl
theorem wM_Law0_171 : Cond.methodLink "OneJoyLaw" 171 ⟨"OneJoy", "sure", "()I"⟩ ∈ fw_tb := fw_in6 27 rfl rfl
theorem wM_Law0_174 : Cond.methodLink "OneJoyLaw" 174 ⟨"OneJoyModel", "sure", "()I"⟩ ∈ fw_tb := fw_in9 2 rfl rfl
theorem wM_Law0_175 : Cond.methodLink "OneJoyLaw" 175 ⟨"OneJoy", "sills", "()I"⟩ ∈ fw_tb := fw_in6 31 rfl rfl
theorem wM_Law0_178 : Cond.methodLink "OneJoyLaw" 178 ⟨"OneJoyModel", "sills", "()I"⟩ ∈ fw_tb := fw_in9 6 rfl rfl
theorem wM_Law0_179 : Cond.methodLink "OneJoyLaw" 179 ⟨"OneJoy", "sees", "(I)I"⟩ ∈ fw_tb := fw_in6 43 rfl rfl
theorem wM_Law0_18 : Cond.methodLink "OneJoyLaw" 18 ⟨"OneJoyModel", "<init>", "()V"⟩ ∈ fw_tb := fw_in6 153 rfl rfl
theorem wM_Law0_182 : Cond.methodLink "OneJoyLaw" 182 ⟨"OneJoyModel", "sees", "(I)I"⟩ ∈ fw_tb := fw_in9 10 rfl rfl
theorem wM_Law0_183 : Cond.methodLink "OneJoyLaw" 183 ⟨"OneJoy", "most", "()I"⟩ ∈ fw_tb := fw_in6 48 rfl rfl
theorem wM_Law0_186 : Cond.methodLink "OneJoyLaw" 186 ⟨"OneJoyModel", "most", "()I"⟩ ∈ fw_tb := fw_in9 14 rfl rfl
theorem wM_Law0_187 : Cond.methodLink "OneJoyLaw" 187 ⟨"OneJoy", "widows", "()I"⟩ ∈ fw_tb := fw_in6 53 rfl rfl
theorem wM_Law0_19 : Cond.methodLink "OneJoyLaw" 19 ⟨"OneJoy", "feed", "(IIIII)I"⟩ ∈ fw_tb := fw_in2 179 rfl rfl
theorem wM_Law0_190 : Cond.methodLink "OneJoyLaw" 190 ⟨"OneJoyModel", "widows", "()I"⟩ ∈ fw_tb := fw_in9 18 rfl rfl
theorem wM_Law0_191 : Cond.methodLink "OneJoyLaw" 191 ⟨"OneJoy", "image", "()I"⟩ ∈ fw_tb := fw_in6 57 rfl rfl
theorem wM_Law0_194 : Cond.methodLink "OneJoyLaw" 194 ⟨"OneJoyModel", "image", "()I"⟩ ∈ fw_tb := fw_in9 22 rfl rfl
theorem wM_Law0_195 : Cond.methodLink "OneJoyLaw" 195 ⟨"OneJoy", "back", "()I"⟩ ∈ fw_tb := fw_in6 61 rfl rfl
theorem wM_Law0_198 : Cond.methodLink "OneJoyLaw" 198 ⟨"OneJoyModel", "back", "()I"⟩ ∈ fw_tb := fw_in9 26 rfl rfl
theorem wM_Law0_199 : Cond.methodLink "OneJoyLaw" 199 ⟨"OneJoy", "count", "(I)I"⟩ ∈ fw_tb := fw_in6 65 rfl rfl
theorem wM_Law0_202 : Cond.methodLink "OneJoyLaw" 202 ⟨"OneJoyModel", "count", "(I)I"⟩ ∈ fw_tb := fw_in9 30 rfl rfl
theorem wM_Law0_23 : Cond.methodLink "OneJoyLaw" 23 ⟨"OneJoyModel", "feed", "(IIIII)I"⟩ ∈ fw_tb := fw_in7 72 rfl rfl
theorem wM_Law0_24 : Cond.methodLink "OneJoyLaw" 24 ⟨"OneJoy", "end", "(I)Z"⟩ ∈ fw_tb := fw_in2 197 rfl rfl
theorem wM_Law0_28 : Cond.methodLink "OneJoyLaw" 28 ⟨"OneJoyModel", "end", "(I)Z"⟩ ∈ fw_tb := fw_in7 79 rfl rfl
theorem wM_Law0_29 : Cond.methodLink "OneJoyLaw" 29 ⟨"OneJoy", "fault", "(I)I"⟩ ∈ fw_tb := fw_in2 205 rfl rfl
theorem wM_Law0_33 : Cond.methodLink "OneJoyLaw" 33 ⟨"OneJoyModel", "fault", "(I)I"⟩ ∈ fw_tb := fw_in7 83 rfl rfl
theorem wM_Law0_34 : Cond.methodLink "OneJoyLaw" 34 ⟨"OneJoy", "text", "(I)I"⟩ ∈ fw_tb := fw_in4 2 rfl rfl
theorem wM_Law0_37 : Cond.methodLink "OneJoyLaw" 37 ⟨"OneJoyModel", "text", "(I)I"⟩ ∈ fw_tb := fw_in7 201 rfl rfl
theorem wM_Law0_38 : Cond.methodLink "OneJoyLaw" 38 ⟨"OneJoyLaw", "house", "(LOneJoy;II[J)I"⟩ ∈ fw_tb := fw_in6 82 rfl rfl
theorem wM_Law0_43 : Cond.methodLink "OneJoyLaw" 43 ⟨"OneJoyModel", "house", "(II)I"⟩ ∈ fw_tb := fw_in7 213 rfl rfl
theorem wM_Law0_44 : Cond.methodLink "OneJoyLaw" 44 ⟨"OneJoyModel", "thrown", "()I"⟩ ∈ fw_tb := fw_in7 68 rfl rfl
theorem wM_Law0_48 : Cond.methodLink "OneJoyLaw" 48 ⟨"OneJoy", "window", "(II)I"⟩ ∈ fw_tb := fw_in4 32 rfl rfl
theorem wM_Law0_51 : Cond.methodLink "OneJoyLaw" 51 ⟨"OneJoyModel", "window", "(II)I"⟩ ∈ fw_tb := fw_in7 224 rfl rfl
theorem wM_Law0_52 : Cond.methodLink "OneJoyLaw" 52 ⟨"OneJoy", "law", "(I)Z"⟩ ∈ fw_tb := fw_in4 45 rfl rfl
theorem wM_Law0_55 : Cond.methodLink "OneJoyLaw" 55 ⟨"OneJoyModel", "law", "(I)Z"⟩ ∈ fw_tb := fw_in7 232 rfl rfl
theorem wM_Law0_56 : Cond.methodLink "OneJoyLaw" 56 ⟨"OneJoy", "wish", "(I)I"⟩ ∈ fw_tb := fw_in4 49 rfl rfl
theorem wM_Law0_59 : Cond.methodLink "OneJoyLaw" 59 ⟨"OneJoyModel", "wish", "(I)I"⟩ ∈ fw_tb := fw_in7 236 rfl rfl
theorem wM_Law0_60 : Cond.methodLink "OneJoyLaw" 60 ⟨"OneJoy", "turn", "(IZ)Z"⟩ ∈ fw_tb := fw_in4 129 rfl rfl
theorem wM_Law0_64 : Cond.methodLink "OneJoyLaw" 64 ⟨"OneJoyModel", "turn", "(IZ)Z"⟩ ∈ fw_tb := fw_in8 25 rfl rfl
theorem wM_Law0_65 : Cond.methodLink "OneJoyLaw" 65 ⟨"OneJoy", "shut", "(IZ)Z"⟩ ∈ fw_tb := fw_in4 139 rfl rfl
theorem wM_Law0_68 : Cond.methodLink "OneJoyLaw" 68 ⟨"OneJoyModel", "shut", "(IZ)Z"⟩ ∈ fw_tb := fw_in8 37 rfl rfl
theorem wM_Law0_69 : Cond.methodLink "OneJoyLaw" 69 ⟨"OneJoy", "music", "(Z)Z"⟩ ∈ fw_tb := fw_in4 143 rfl rfl
theorem wM_Law0_73 : Cond.methodLink "OneJoyLaw" 73 ⟨"OneJoyModel", "music", "(Z)Z"⟩ ∈ fw_tb := fw_in8 41 rfl rfl
theorem wM_Law0_74 : Cond.methodLink "OneJoyLaw" 74 ⟨"OneJoy", "fog", "(Z)Z"⟩ ∈ fw_tb := fw_in4 151 rfl rfl
theorem wM_Law0_77 : Cond.methodLink "OneJoyLaw" 77 ⟨"OneJoyModel", "fog", "(Z)Z"⟩ ∈ fw_tb := fw_in8 45 rfl rfl
theorem wM_Law0_78 : Cond.methodLink "OneJoyLaw" 78 ⟨"OneJoy", "prescribe", "(I)I"⟩ ∈ fw_tb := fw_in4 155 rfl rfl
theorem wM_Law0_81 : Cond.methodLink "OneJoyLaw" 81 ⟨"OneJoyModel", "prescribe", "(I)I"⟩ ∈ fw_tb := fw_in8 49 rfl rfl
theorem wM_Law0_82 : Cond.methodLink "OneJoyLaw" 82 ⟨"OneJoy", "lie", "()I"⟩ ∈ fw_tb := fw_in4 165 rfl rfl
theorem wM_Law0_85 : Cond.methodLink "OneJoyLaw" 85 ⟨"OneJoyModel", "lie", "()I"⟩ ∈ fw_tb := fw_in8 53 rfl rfl
theorem wM_Law0_86 : Cond.methodLink "OneJoyLaw" 86 ⟨"OneJoy", "go", "(I)I"⟩ ∈ fw_tb := fw_in4 173 rfl rfl
theorem wM_Law0_89 : Cond.methodLink "OneJoyLaw" 89 ⟨"OneJoyModel", "go", "(I)I"⟩ ∈ fw_tb := fw_in8 61 rfl rfl
theorem wM_Law0_90 : Cond.methodLink "OneJoyLaw" 90 ⟨"OneJoy", "mist", "(I)Z"⟩ ∈ fw_tb := fw_in4 221 rfl rfl
theorem wM_Law0_93 : Cond.methodLink "OneJoyLaw" 93 ⟨"OneJoyModel", "mist", "(I)Z"⟩ ∈ fw_tb := fw_in8 89 rfl rfl
theorem wM_Law0_96 : Cond.methodLink "OneJoyLaw" 96 ⟨"OneJoy", "mists", "(IJ)I"⟩ ∈ fw_tb := fw_in4 225 rfl rfl
theorem wM_Law_29 : Cond.methodLink "OneJoy$Law" 29 ⟨"OneJoy$Rows", "copy", "([I[I)V"⟩ ∈ fw_tb := fw_in4 31 rfl rfl
theorem wM_Law_3 : Cond.methodLink "OneJoy$Law" 3 ⟨"java/lang/Object", "<init>", "()V"⟩ ∈ fw_tb := fw_in1 167 rfl rfl
theorem wM_Law_35 : Cond.methodLink "OneJoy$Law" 35 ⟨"OneJoy$Rows", "put", "([III)V"⟩ ∈ fw_tb := fw_in3 220 rfl rfl
theorem wM_Law_39 : Cond.methodLink "OneJoy$Law" 39 ⟨"java/lang/Math", "min", "(II)I"⟩ ∈ fw_tb := fw_in3 221 rfl rfl
theorem wM_Law_46 : Cond.methodLink "OneJoy$Law" 46 ⟨"OneJoy$Rows", "get", "([II)I"⟩ ∈ fw_tb := fw_in4 97 rfl rfl
theorem wM_Law_50 : Cond.methodLink "OneJoy$Law" 50 ⟨"OneJoy$Law", "joined", "(IJJ)I"⟩ ∈ fw_tb := fw_in4 98 rfl rfl
theorem wM_Mod_109 : Cond.methodLink "OneJoyModel" 109 ⟨"OneJoyModel", "here", "()I"⟩ ∈ fw_tb := fw_in7 95 rfl rfl
theorem wM_Mod_122 : Cond.methodLink "OneJoyModel" 122 ⟨"OneJoyModel", "bad", "()V"⟩ ∈ fw_tb := fw_in7 122 rfl rfl
theorem wM_Mod_125 : Cond.methodLink "OneJoyModel" 125 ⟨"OneJoyModel", "look", "()I"⟩ ∈ fw_tb := fw_in7 91 rfl rfl
theorem wM_Mod_128 : Cond.methodLink "OneJoyModel" 128 ⟨"OneJoyModel", "isDigit", "(I)Z"⟩ ∈ fw_tb := fw_in7 119 rfl rfl
theorem wM_Mod_132 : Cond.methodLink "OneJoyModel" 132 ⟨"OneJoyModel", "plainNumber", "()I"⟩ ∈ fw_tb := fw_in7 175 rfl rfl
theorem wM_Mod_135 : Cond.methodLink "OneJoyModel" 135 ⟨"OneJoyModel", "put", "(II)V"⟩ ∈ fw_tb := fw_in7 155 rfl rfl
theorem wM_Mod_139 : Cond.methodLink "OneJoyModel" 139 ⟨"OneJoyModel", "letterOf", "(I)I"⟩ ∈ fw_tb := fw_in7 179 rfl rfl
theorem wM_Mod_143 : Cond.methodLink "OneJoyModel" 143 ⟨"OneJoyModel", "opens", "()V"⟩ ∈ fw_tb := fw_in7 151 rfl rfl
theorem wM_Mod_146 : Cond.methodLink "OneJoyModel" 146 ⟨"OneJoyModel", "sum", "()V"⟩ ∈ fw_tb := fw_in7 163 rfl rfl
theorem wM_Mod_149 : Cond.methodLink "OneJoyModel" 149 ⟨"OneJoyModel", "closes", "(I)V"⟩ ∈ fw_tb := fw_in7 159 rfl rfl
theorem wM_Mod_153 : Cond.methodLink "OneJoyModel" 153 ⟨"OneJoyModel", "atom", "()V"⟩ ∈ fw_tb := fw_in7 171 rfl rfl
theorem wM_Mod_156 : Cond.methodLink "OneJoyModel" 156 ⟨"OneJoyModel", "term", "()V"⟩ ∈ fw_tb := fw_in7 167 rfl rfl
theorem wM_Mod_159 : Cond.methodLink "OneJoyModel" 159 ⟨"OneJoyModel", "isSign", "(I)Z"⟩ ∈ fw_tb := fw_in7 186 rfl rfl
theorem wM_Mod_162 : Cond.methodLink "OneJoyModel" 162 ⟨"OneJoyModel", "unit", "()V"⟩ ∈ fw_tb := fw_in7 147 rfl rfl
theorem wM_Mod_165 : Cond.methodLink "OneJoyModel" 165 ⟨"OneJoyModel", "condition", "()V"⟩ ∈ fw_tb := fw_in7 143 rfl rfl
theorem wM_Mod_168 : Cond.methodLink "OneJoyModel" 168 ⟨"OneJoyModel", "compare", "()V"⟩ ∈ fw_tb := fw_in7 182 rfl rfl
theorem wM_Mod_171 : Cond.methodLink "OneJoyModel" 171 ⟨"OneJoyModel", "goOnAnd", "()V"⟩ ∈ fw_tb := fw_in7 189 rfl rfl
theorem wM_Mod_174 : Cond.methodLink "OneJoyModel" 174 ⟨"OneJoyModel", "goOnOr", "()V"⟩ ∈ fw_tb := fw_in7 193 rfl rfl
theorem wM_Mod_177 : Cond.methodLink "OneJoyModel" 177 ⟨"OneJoyModel", "open", "(I)V"⟩ ∈ fw_tb := fw_in7 135 rfl rfl
theorem wM_Mod_180 : Cond.methodLink "OneJoyModel" 180 ⟨"OneJoyModel", "clause", "()V"⟩ ∈ fw_tb := fw_in7 139 rfl rfl
theorem wM_Mod_183 : Cond.methodLink "OneJoyModel" 183 ⟨"OneJoyModel", "atEnd", "()I"⟩ ∈ fw_tb := fw_in7 197 rfl rfl
theorem wM_Mod_190 : Cond.methodLink "OneJoyModel" 190 ⟨"java/lang/Math", "min", "(JJ)J"⟩ ∈ fw_tb := fw_in8 20 rfl rfl
theorem wM_Mod_196 : Cond.methodLink "OneJoyModel" 196 ⟨"java/lang/Math", "max", "(JJ)J"⟩ ∈ fw_tb := fw_in8 21 rfl rfl
theorem wM_Mod_199 : Cond.methodLink "OneJoyModel" 199 ⟨"OneJoyModel", "bounded", "(J)I"⟩ ∈ fw_tb := fw_in8 15 rfl rfl
theorem wM_Mod_203 : Cond.methodLink "OneJoyModel" 203 ⟨"OneJoyModel", "worked", "(IJJ)I"⟩ ∈ fw_tb := fw_in8 12 rfl rfl
theorem wM_Mod_207 : Cond.methodLink "OneJoyModel" 207 ⟨"OneJoyModel", "workOut", "(III)I"⟩ ∈ fw_tb := fw_in8 8 rfl rfl
theorem wM_Mod_211 : Cond.methodLink "OneJoyModel" 211 ⟨"OneJoyModel", "usual", "(II)I"⟩ ∈ fw_tb := fw_in7 103 rfl rfl
theorem wM_Mod_215 : Cond.methodLink "OneJoyModel" 215 ⟨"OneJoyModel", "itemOf", "(II)I"⟩ ∈ fw_tb := fw_in7 106 rfl rfl
theorem wM_Mod_218 : Cond.methodLink "OneJoyModel" 218 ⟨"OneJoyModel", "has", "(II)Z"⟩ ∈ fw_tb := fw_in7 109 rfl rfl
theorem wM_Mod_222 : Cond.methodLink "OneJoyModel" 222 ⟨"OneJoyModel", "highest", "(II)I"⟩ ∈ fw_tb := fw_in7 112 rfl rfl
theorem wM_Mod_225 : Cond.methodLink "OneJoyModel" 225 ⟨"OneJoyModel", "number", "(I)I"⟩ ∈ fw_tb := fw_in7 115 rfl rfl
theorem wM_Mod_234 : Cond.methodLink "OneJoyModel" 234 ⟨"java/lang/Math", "max", "(II)I"⟩ ∈ fw_tb := fw_in7 130 rfl rfl
theorem wM_Mod_236 : Cond.methodLink "OneJoyModel" 236 ⟨"OneJoyModel", "items", "(I[III)V"⟩ ∈ fw_tb := fw_in7 99 rfl rfl
theorem wM_Mod_240 : Cond.methodLink "OneJoyModel" 240 ⟨"OneJoyModel", "isWhole", "()Z"⟩ ∈ fw_tb := fw_in7 126 rfl rfl
theorem wM_Mod_244 : Cond.methodLink "OneJoyModel" 244 ⟨"OneJoyModel", "readAll", "()I"⟩ ∈ fw_tb := fw_in7 87 rfl rfl
theorem wM_Mod_247 : Cond.methodLink "OneJoyModel" 247 ⟨"OneJoyModel", "readLaw", "(I)I"⟩ ∈ fw_tb := fw_in7 131 rfl rfl
theorem wM_Mod_256 : Cond.methodLink "OneJoyModel" 256 ⟨"OneJoyModel", "layEnvy", "(I)V"⟩ ∈ fw_tb := fw_in7 209 rfl rfl
theorem wM_Mod_269 : Cond.methodLink "OneJoyModel" 269 ⟨"OneJoyModel", "takeAll", "()I"⟩ ∈ fw_tb := fw_in7 205 rfl rfl
theorem wM_Mod_275 : Cond.methodLink "OneJoyModel" 275 ⟨"OneJoyModel", "in", "(III)Z"⟩ ∈ fw_tb := fw_in7 221 rfl rfl
theorem wM_Mod_279 : Cond.methodLink "OneJoyModel" 279 ⟨"OneJoyModel", "isHouse", "(I)Z"⟩ ∈ fw_tb := fw_in7 217 rfl rfl
theorem wM_Mod_282 : Cond.methodLink "OneJoyModel" 282 ⟨"OneJoyModel", "isWindow", "(I)Z"⟩ ∈ fw_tb := fw_in7 228 rfl rfl
theorem wM_Mod_285 : Cond.methodLink "OneJoyModel" 285 ⟨"OneJoyModel", "worthOf", "(I)I"⟩ ∈ fw_tb := fw_in8 4 rfl rfl
theorem wM_Mod_288 : Cond.methodLink "OneJoyModel" 288 ⟨"OneJoyModel", "wishAt", "(II)I"⟩ ∈ fw_tb := fw_in8 0 rfl rfl
theorem wM_Mod_292 : Cond.methodLink "OneJoyModel" 292 ⟨"OneJoyModel", "goes", "(III)Z"⟩ ∈ fw_tb := fw_in8 81 rfl rfl
theorem wM_Mod_295 : Cond.methodLink "OneJoyModel" 295 ⟨"OneJoyModel", "seenFrom", "(I)I"⟩ ∈ fw_tb := fw_in8 77 rfl rfl
theorem wM_Mod_298 : Cond.methodLink "OneJoyModel" 298 ⟨"OneJoyModel", "keep", "()V"⟩ ∈ fw_tb := fw_in8 33 rfl rfl
theorem wM_Mod_3 : Cond.methodLink "OneJoyModel" 3 ⟨"java/lang/Object", "<init>", "()V"⟩ ∈ fw_tb := fw_in6 156 rfl rfl
theorem wM_Mod_301 : Cond.methodLink "OneJoyModel" 301 ⟨"OneJoyModel", "tells", "(IZ)Z"⟩ ∈ fw_tb := fw_in8 29 rfl rfl
theorem wM_Mod_305 : Cond.methodLink "OneJoyModel" 305 ⟨"OneJoyModel", "doorsOn", "(I)I"⟩ ∈ fw_tb := fw_in8 57 rfl rfl
theorem wM_Mod_308 : Cond.methodLink "OneJoyModel" 308 ⟨"OneJoyModel", "nextOf", "(III)I"⟩ ∈ fw_tb := fw_in8 73 rfl rfl
theorem wM_Mod_311 : Cond.methodLink "OneJoyModel" 311 ⟨"OneJoyModel", "note", "()V"⟩ ∈ fw_tb := fw_in8 85 rfl rfl
theorem wM_Mod_314 : Cond.methodLink "OneJoyModel" 314 ⟨"OneJoyModel", "areHours", "(I)Z"⟩ ∈ fw_tb := fw_in8 65 rfl rfl
theorem wM_Mod_317 : Cond.methodLink "OneJoyModel" 317 ⟨"OneJoyModel", "pass", "(Z)V"⟩ ∈ fw_tb := fw_in8 69 rfl rfl
theorem wM_Mod_339 : Cond.methodLink "OneJoyModel" 339 ⟨"OneJoyModel", "goTo", "(I)V"⟩ ∈ fw_tb := fw_in8 124 rfl rfl
theorem wM_Mod_342 : Cond.methodLink "OneJoyModel" 342 ⟨"OneJoyModel", "startWalk", "()V"⟩ ∈ fw_tb := fw_in8 116 rfl rfl
theorem wM_Mod_345 : Cond.methodLink "OneJoyModel" 345 ⟨"OneJoyModel", "walk", "()V"⟩ ∈ fw_tb := fw_in8 120 rfl rfl
theorem wM_Mod_348 : Cond.methodLink "OneJoyModel" 348 ⟨"OneJoyModel", "whereBehind", "(I)I"⟩ ∈ fw_tb := fw_in8 112 rfl rfl
theorem wM_Mod_354 : Cond.methodLink "OneJoyModel" 354 ⟨"OneJoyModel", "stateOf", "(II)I"⟩ ∈ fw_tb := fw_in8 136 rfl rfl
theorem wM_Mod_366 : Cond.methodLink "OneJoyModel" 366 ⟨"OneJoyModel", "layRing", "()V"⟩ ∈ fw_tb := fw_in8 132 rfl rfl
theorem wM_Mod_369 : Cond.methodLink "OneJoyModel" 369 ⟨"OneJoyModel", "everyHouse", "()I"⟩ ∈ fw_tb := fw_in8 147 rfl rfl
theorem wM_Mod_372 : Cond.methodLink "OneJoyModel" 372 ⟨"java/lang/Integer", "bitCount", "(I)I"⟩ ∈ fw_tb := fw_in8 166 rfl rfl
theorem wM_Mod_377 : Cond.methodLink "OneJoyModel" 377 ⟨"OneJoyModel", "putAside", "()V"⟩ ∈ fw_tb := fw_in8 159 rfl rfl
theorem wM_Mod_380 : Cond.methodLink "OneJoyModel" 380 ⟨"OneJoyModel", "isFewer", "(II)Z"⟩ ∈ fw_tb := fw_in8 163 rfl rfl
theorem wM_Mod_383 : Cond.methodLink "OneJoyModel" 383 ⟨"OneJoyModel", "takeBack", "()V"⟩ ∈ fw_tb := fw_in8 167 rfl rfl
theorem wM_Mod_386 : Cond.methodLink "OneJoyModel" 386 ⟨"java/lang/Math", "min", "(II)I"⟩ ∈ fw_tb := fw_in8 183 rfl rfl
theorem wM_Mod_388 : Cond.methodLink "OneJoyModel" 388 ⟨"OneJoyModel", "tellLie", "(IIII)V"⟩ ∈ fw_tb := fw_in8 179 rfl rfl
theorem wM_Mod_392 : Cond.methodLink "OneJoyModel" 392 ⟨"OneJoyModel", "lieOn", "(I)V"⟩ ∈ fw_tb := fw_in8 175 rfl rfl
theorem wM_Mod_397 : Cond.methodLink "OneJoyModel" 397 ⟨"OneJoyModel", "beginParts", "()V"⟩ ∈ fw_tb := fw_in8 196 rfl rfl
theorem wM_Mod_400 : Cond.methodLink "OneJoyModel" 400 ⟨"OneJoyModel", "fogOn", "(II)V"⟩ ∈ fw_tb := fw_in8 201 rfl rfl
theorem wM_Mod_403 : Cond.methodLink "OneJoyModel" 403 ⟨"OneJoyModel", "partsAt", "(I)J"⟩ ∈ fw_tb := fw_in8 205 rfl rfl
theorem wM_Mod_409 : Cond.methodLink "OneJoyModel" 409 ⟨"OneJoyModel", "areTwo", "(II)Z"⟩ ∈ fw_tb := fw_in8 218 rfl rfl
theorem wM_Mod_412 : Cond.methodLink "OneJoyModel" 412 ⟨"OneJoyModel", "pretendOf", "(IIII)I"⟩ ∈ fw_tb := fw_in8 222 rfl rfl
theorem wM_Mod_416 : Cond.methodLink "OneJoyModel" 416 ⟨"OneJoyModel", "isSoBy", "(I)Z"⟩ ∈ fw_tb := fw_in8 238 rfl rfl
theorem wM_Mod_419 : Cond.methodLink "OneJoyModel" 419 ⟨"OneJoyModel", "laughs", "()I"⟩ ∈ fw_tb := fw_in9 34 rfl rfl
theorem wM_Mod_99 : Cond.methodLink "OneJoyModel" 99 ⟨"OneJoyModel", "byteOf", "(IIIIII)I"⟩ ∈ fw_tb := fw_in7 76 rfl rfl
theorem wM_Seen_29 : Cond.methodLink "OneJoy$Seen" 29 ⟨"OneJoy$Rows", "put", "([III)V"⟩ ∈ fw_tb := fw_in6 4 rfl rfl
theorem wM_Seen_3 : Cond.methodLink "OneJoy$Seen" 3 ⟨"java/lang/Object", "<init>", "()V"⟩ ∈ fw_tb := fw_in2 98 rfl rfl
theorem wM_Seen_35 : Cond.methodLink "OneJoy$Seen" 35 ⟨"java/util/Arrays", "fill", "([II)V"⟩ ∈ fw_tb := fw_in6 17 rfl rfl
theorem wM_Seen_44 : Cond.methodLink "OneJoy$Seen" 44 ⟨"OneJoy$Rows", "get", "([II)I"⟩ ∈ fw_tb := fw_in6 18 rfl rfl
theorem wM_Seen_48 : Cond.methodLink "OneJoy$Seen" 48 ⟨"java/lang/Math", "max", "(II)I"⟩ ∈ fw_tb := fw_in6 19 rfl rfl
theorem wM_Seen_59 : Cond.methodLink "OneJoy$Seen" 59 ⟨"OneJoy$Walk", "restart", "()V"⟩ ∈ fw_tb := fw_in6 24 rfl rfl
theorem wM_Seen_62 : Cond.methodLink "OneJoy$Seen" 62 ⟨"OneJoy$Walk", "hour", "()V"⟩ ∈ fw_tb := fw_in6 25 rfl rfl
theorem wM_Seen_68 : Cond.methodLink "OneJoy$Seen" 68 ⟨"OneJoy$Rows", "has", "(II)Z"⟩ ∈ fw_tb := fw_in6 26 rfl rfl
theorem wM_Seen_72 : Cond.methodLink "OneJoy$Seen" 72 ⟨"OneJoy$Seen", "gather", "()V"⟩ ∈ fw_tb := fw_in6 13 rfl rfl
theorem wM_Seen_84 : Cond.methodLink "OneJoy$Seen" 84 ⟨"OneJoy$Seen", "fits", "(I)Z"⟩ ∈ fw_tb := fw_in6 20 rfl rfl
theorem wM_Spread_101 : Cond.methodLink "OneJoy$Spread" 101 ⟨"OneJoy$Spread", "lieHour", "()V"⟩ ∈ fw_tb := fw_in5 123 rfl rfl
theorem wM_Spread_24 : Cond.methodLink "OneJoy$Spread" 24 ⟨"OneJoy$Walk", "standAt", "(III)V"⟩ ∈ fw_tb := fw_in5 134 rfl rfl
theorem wM_Spread_28 : Cond.methodLink "OneJoy$Spread" 28 ⟨"java/util/Arrays", "fill", "([JJ)V"⟩ ∈ fw_tb := fw_in5 116 rfl rfl
theorem wM_Spread_3 : Cond.methodLink "OneJoy$Spread" 3 ⟨"java/lang/Object", "<init>", "()V"⟩ ∈ fw_tb := fw_in2 81 rfl rfl
theorem wM_Spread_34 : Cond.methodLink "OneJoy$Spread" 34 ⟨"OneJoy$Walk", "placeNow", "()I"⟩ ∈ fw_tb := fw_in5 119 rfl rfl
theorem wM_Spread_38 : Cond.methodLink "OneJoy$Spread" 38 ⟨"OneJoy$Spread", "put", "([JIJ)V"⟩ ∈ fw_tb := fw_in5 120 rfl rfl
theorem wM_Spread_46 : Cond.methodLink "OneJoy$Spread" 46 ⟨"OneJoy$Spread", "get", "([JI)J"⟩ ∈ fw_tb := fw_in5 127 rfl rfl
theorem wM_Spread_52 : Cond.methodLink "OneJoy$Spread" 52 ⟨"OneJoy$Spread", "walkFrom", "(II)V"⟩ ∈ fw_tb := fw_in5 130 rfl rfl
theorem wM_Spread_56 : Cond.methodLink "OneJoy$Spread" 56 ⟨"OneJoy$Walk", "hour", "()V"⟩ ∈ fw_tb := fw_in5 139 rfl rfl
theorem wM_Spread_59 : Cond.methodLink "OneJoy$Spread" 59 ⟨"OneJoy$Spread", "turnOver", "()V"⟩ ∈ fw_tb := fw_in5 144 rfl rfl
theorem wM_Spread_64 : Cond.methodLink "OneJoy$Spread" 64 ⟨"OneJoy$Spread", "begin", "(JJ)V"⟩ ∈ fw_tb := fw_in5 112 rfl rfl
theorem wM_Spread_68 : Cond.methodLink "OneJoy$Spread" 68 ⟨"OneJoy$Spread", "fogHour", "(I)V"⟩ ∈ fw_tb := fw_in5 198 rfl rfl
theorem wM_Spread_72 : Cond.methodLink "OneJoy$Spread" 72 ⟨"OneJoy$Spread", "partsOf", "(I)J"⟩ ∈ fw_tb := fw_in5 203 rfl rfl
theorem wM_Spread_76 : Cond.methodLink "OneJoy$Spread" 76 ⟨"java/lang/Math", "min", "(JJ)J"⟩ ∈ fw_tb := fw_in5 140 rfl rfl
theorem wM_Spread_84 : Cond.methodLink "OneJoy$Spread" 84 ⟨"OneJoy$Spread", "reach", "(J)V"⟩ ∈ fw_tb := fw_in5 135 rfl rfl
theorem wM_Spread_95 : Cond.methodLink "OneJoy$Spread" 95 ⟨"OneJoy$Village", "threeOn", "(I)I"⟩ ∈ fw_tb := fw_in5 143 rfl rfl
theorem wM_Tape_22 : Cond.methodLink "OneJoy$Tape" 22 ⟨"OneJoy$Rows", "put", "([III)V"⟩ ∈ fw_tb := fw_in2 194 rfl rfl
theorem wM_Tape_3 : Cond.methodLink "OneJoy$Tape" 3 ⟨"java/lang/Object", "<init>", "()V"⟩ ∈ fw_tb := fw_in1 39 rfl rfl
theorem wM_Tape_31 : Cond.methodLink "OneJoy$Tape" 31 ⟨"OneJoy$Tape", "failAt", "(I)V"⟩ ∈ fw_tb := fw_in3 102 rfl rfl
theorem wM_Tape_35 : Cond.methodLink "OneJoy$Tape" 35 ⟨"OneJoy$Tape", "peek", "()I"⟩ ∈ fw_tb := fw_in3 113 rfl rfl
theorem wM_Tape_39 : Cond.methodLink "OneJoy$Tape" 39 ⟨"OneJoy$Tape", "isDigit", "(I)Z"⟩ ∈ fw_tb := fw_in3 114 rfl rfl
theorem wM_Tape_43 : Cond.methodLink "OneJoy$Tape" 43 ⟨"OneJoy$Tape", "here", "()I"⟩ ∈ fw_tb := fw_in3 117 rfl rfl
theorem wM_VText_101 : Cond.methodLink "OneJoy$VillageText" 101 ⟨"OneJoy$Village", "addWindow", "([I)V"⟩ ∈ fw_tb := fw_in3 142 rfl rfl
theorem wM_VText_104 : Cond.methodLink "OneJoy$VillageText" 104 ⟨"OneJoy$Tape", "fail", "()V"⟩ ∈ fw_tb := fw_in3 98 rfl rfl
theorem wM_VText_107 : Cond.methodLink "OneJoy$VillageText" 107 ⟨"OneJoy$Tape", "skip", "()V"⟩ ∈ fw_tb := fw_in3 1 rfl rfl
theorem wM_VText_11 : Cond.methodLink "OneJoy$VillageText" 11 ⟨"OneJoy$Village", "<init>", "()V"⟩ ∈ fw_tb := fw_in1 62 rfl rfl
theorem wM_VText_110 : Cond.methodLink "OneJoy$VillageText" 110 ⟨"OneJoy$Rows", "copy", "([I[I)V"⟩ ∈ fw_tb := fw_in3 5 rfl rfl
theorem wM_VText_116 : Cond.methodLink "OneJoy$VillageText" 116 ⟨"java/lang/String", "length", "()I"⟩ ∈ fw_tb := fw_in3 8 rfl rfl
theorem wM_VText_121 : Cond.methodLink "OneJoy$VillageText" 121 ⟨"java/lang/String", "indexOf", "(I)I"⟩ ∈ fw_tb := fw_in3 18 rfl rfl
theorem wM_VText_125 : Cond.methodLink "OneJoy$VillageText" 125 ⟨"OneJoy$Rows", "has", "(II)Z"⟩ ∈ fw_tb := fw_in3 95 rfl rfl
theorem wM_VText_129 : Cond.methodLink "OneJoy$VillageText" 129 ⟨"OneJoy$Rows", "get", "([II)I"⟩ ∈ fw_tb := fw_in3 106 rfl rfl
theorem wM_VText_133 : Cond.methodLink "OneJoy$VillageText" 133 ⟨"OneJoy$Tape", "number", "(II)I"⟩ ∈ fw_tb := fw_in3 109 rfl rfl
theorem wM_VText_137 : Cond.methodLink "OneJoy$VillageText" 137 ⟨"OneJoy$Rows", "put", "([III)V"⟩ ∈ fw_tb := fw_in3 121 rfl rfl
theorem wM_VText_26 : Cond.methodLink "OneJoy$VillageText" 26 ⟨"OneJoy$Tape", "rewind", "()V"⟩ ∈ fw_tb := fw_in2 213 rfl rfl
theorem wM_VText_3 : Cond.methodLink "OneJoy$VillageText" 3 ⟨"java/lang/Object", "<init>", "()V"⟩ ∈ fw_tb := fw_in1 59 rfl rfl
theorem wM_VText_31 : Cond.methodLink "OneJoy$VillageText" 31 ⟨"OneJoy$Village", "clear", "()V"⟩ ∈ fw_tb := fw_in2 217 rfl rfl
theorem wM_VText_38 : Cond.methodLink "OneJoy$VillageText" 38 ⟨"OneJoy$VillageText", "clause", "()V"⟩ ∈ fw_tb := fw_in2 224 rfl rfl
theorem wM_VText_41 : Cond.methodLink "OneJoy$VillageText" 41 ⟨"OneJoy$Tape", "peek", "()I"⟩ ∈ fw_tb := fw_in2 228 rfl rfl
theorem wM_VText_45 : Cond.methodLink "OneJoy$VillageText" 45 ⟨"OneJoy$Tape", "expect", "(I)V"⟩ ∈ fw_tb := fw_in3 146 rfl rfl
theorem wM_VText_49 : Cond.methodLink "OneJoy$VillageText" 49 ⟨"OneJoy$Village", "holdsTogether", "()Z"⟩ ∈ fw_tb := fw_in3 150 rfl rfl
theorem wM_VText_53 : Cond.methodLink "OneJoy$VillageText" 53 ⟨"OneJoy$Tape", "failAtEnd", "()V"⟩ ∈ fw_tb := fw_in3 166 rfl rfl
theorem wM_VText_56 : Cond.methodLink "OneJoy$VillageText" 56 ⟨"OneJoy$Tape", "faultFound", "()I"⟩ ∈ fw_tb := fw_in3 170 rfl rfl
theorem wM_VText_67 : Cond.methodLink "OneJoy$VillageText" 67 ⟨"OneJoy$VillageText", "items", "(Ljava/lang/String;[I[I)V"⟩ ∈ fw_tb := fw_in2 237 rfl rfl
theorem wM_VText_71 : Cond.methodLink "OneJoy$VillageText" 71 ⟨"OneJoy$Village", "begin", "([I)V"⟩ ∈ fw_tb := fw_in3 122 rfl rfl
theorem wM_VText_87 : Cond.methodLink "OneJoy$VillageText" 87 ⟨"OneJoy$Village", "addHouse", "([I)V"⟩ ∈ fw_tb := fw_in3 132 rfl rfl
theorem wM_Vil_101 : Cond.methodLink "OneJoy$Village" 101 ⟨"OneJoy$Village", "laugh", "(II)V"⟩ ∈ fw_tb := fw_in4 217 rfl rfl
theorem wM_Vil_105 : Cond.methodLink "OneJoy$Village" 105 ⟨"OneJoy$Village", "laughAll", "(I)V"⟩ ∈ fw_tb := fw_in4 213 rfl rfl
theorem wM_Vil_109 : Cond.methodLink "OneJoy$Village" 109 ⟨"java/lang/Math", "min", "(II)I"⟩ ∈ fw_tb := fw_in5 18 rfl rfl
theorem wM_Vil_114 : Cond.methodLink "OneJoy$Village" 114 ⟨"OneJoy$Village", "logLength", "()I"⟩ ∈ fw_tb := fw_in5 14 rfl rfl
theorem wM_Vil_3 : Cond.methodLink "OneJoy$Village" 3 ⟨"java/lang/Object", "<init>", "()V"⟩ ∈ fw_tb := fw_in1 65 rfl rfl
theorem wM_Vil_37 : Cond.methodLink "OneJoy$Village" 37 ⟨"java/util/Arrays", "fill", "([II)V"⟩ ∈ fw_tb := fw_in2 221 rfl rfl
theorem wM_Vil_65 : Cond.methodLink "OneJoy$Village" 65 ⟨"OneJoy$Rows", "copy", "([I[I)V"⟩ ∈ fw_tb := fw_in4 14 rfl rfl
theorem wM_Vil_71 : Cond.methodLink "OneJoy$Village" 71 ⟨"OneJoy$Rows", "get", "([II)I"⟩ ∈ fw_tb := fw_in3 126 rfl rfl
theorem wM_Vil_75 : Cond.methodLink "OneJoy$Village" 75 ⟨"OneJoy$Rows", "put", "([III)V"⟩ ∈ fw_tb := fw_in3 136 rfl rfl
theorem wM_Vil_79 : Cond.methodLink "OneJoy$Village" 79 ⟨"OneJoy$Village", "endOf", "(II)I"⟩ ∈ fw_tb := fw_in3 154 rfl rfl
theorem wM_Vil_83 : Cond.methodLink "OneJoy$Village" 83 ⟨"OneJoy$Village", "areTwo", "(II)Z"⟩ ∈ fw_tb := fw_in3 158 rfl rfl
theorem wM_Vil_87 : Cond.methodLink "OneJoy$Village" 87 ⟨"OneJoy$Village", "hasHouse", "(I)Z"⟩ ∈ fw_tb := fw_in3 162 rfl rfl
theorem wM_Vil_91 : Cond.methodLink "OneJoy$Village" 91 ⟨"OneJoy$Village", "trait", "(II)I"⟩ ∈ fw_tb := fw_in4 164 rfl rfl
theorem wM_Vil_94 : Cond.methodLink "OneJoy$Village" 94 ⟨"OneJoy$Rows", "has", "(II)Z"⟩ ∈ fw_tb := fw_in4 114 rfl rfl
theorem wM_Vil_97 : Cond.methodLink "OneJoy$Village" 97 ⟨"OneJoy$Village", "leads", "(III)Z"⟩ ∈ fw_tb := fw_in6 39 rfl rfl
theorem wM_Walk_101 : Cond.methodLink "OneJoy$Walk" 101 ⟨"OneJoy$Rows", "put", "([III)V"⟩ ∈ fw_tb := fw_in4 92 rfl rfl
theorem wM_Walk_105 : Cond.methodLink "OneJoy$Walk" 105 ⟨"OneJoy$Rows", "get", "([II)I"⟩ ∈ fw_tb := fw_in4 128 rfl rfl
theorem wM_Walk_109 : Cond.methodLink "OneJoy$Walk" 109 ⟨"OneJoy$Walk", "isCalled", "()Z"⟩ ∈ fw_tb := fw_in4 192 rfl rfl
theorem wM_Walk_113 : Cond.methodLink "OneJoy$Walk" 113 ⟨"OneJoy$Walk", "nextHouse", "()I"⟩ ∈ fw_tb := fw_in4 204 rfl rfl
theorem wM_Walk_116 : Cond.methodLink "OneJoy$Walk" 116 ⟨"OneJoy$Walk", "hour", "()V"⟩ ∈ fw_tb := fw_in5 27 rfl rfl
theorem wM_Walk_118 : Cond.methodLink "OneJoy$Walk" 118 ⟨"OneJoy$Walk", "doorCount", "()I"⟩ ∈ fw_tb := fw_in4 196 rfl rfl
theorem wM_Walk_121 : Cond.methodLink "OneJoy$Walk" 121 ⟨"OneJoy$Walk", "door", "(I)I"⟩ ∈ fw_tb := fw_in4 200 rfl rfl
theorem wM_Walk_125 : Cond.methodLink "OneJoy$Walk" 125 ⟨"OneJoy$Village", "trait", "(II)I"⟩ ∈ fw_tb := fw_in4 88 rfl rfl
theorem wM_Walk_128 : Cond.methodLink "OneJoy$Walk" 128 ⟨"OneJoy$Walk", "wishOf", "(I)I"⟩ ∈ fw_tb := fw_in4 208 rfl rfl
theorem wM_Walk_13 : Cond.methodLink "OneJoy$Walk" 13 ⟨"OneJoy$Village", "<init>", "()V"⟩ ∈ fw_tb := fw_in1 229 rfl rfl
theorem wM_Walk_131 : Cond.methodLink "OneJoy$Walk" 131 ⟨"OneJoy$Walk", "wishPlace", "(III)I"⟩ ∈ fw_tb := fw_in4 103 rfl rfl
theorem wM_Walk_135 : Cond.methodLink "OneJoy$Walk" 135 ⟨"OneJoy$Law", "isByTime", "()Z"⟩ ∈ fw_tb := fw_in4 76 rfl rfl
theorem wM_Walk_140 : Cond.methodLink "OneJoy$Walk" 140 ⟨"OneJoy$Walk", "reckonWish", "(III)I"⟩ ∈ fw_tb := fw_in4 80 rfl rfl
theorem wM_Walk_143 : Cond.methodLink "OneJoy$Walk" 143 ⟨"OneJoy$Law", "isPlain", "()Z"⟩ ∈ fw_tb := fw_in4 84 rfl rfl
theorem wM_Walk_150 : Cond.methodLink "OneJoy$Walk" 150 ⟨"OneJoy$Law", "worth", "([I)I"⟩ ∈ fw_tb := fw_in4 93 rfl rfl
theorem wM_Walk_154 : Cond.methodLink "OneJoy$Walk" 154 ⟨"OneJoy$Village", "want", "(II)V"⟩ ∈ fw_tb := fw_in5 184 rfl rfl
theorem wM_Walk_159 : Cond.methodLink "OneJoy$Walk" 159 ⟨"java/util/Arrays", "fill", "([II)V"⟩ ∈ fw_tb := fw_in5 41 rfl rfl
theorem wM_Walk_165 : Cond.methodLink "OneJoy$Walk" 165 ⟨"OneJoy$Walk", "placeNow", "()I"⟩ ∈ fw_tb := fw_in5 46 rfl rfl
theorem wM_Walk_168 : Cond.methodLink "OneJoy$Walk" 168 ⟨"OneJoy$Walk", "beginTrail", "()V"⟩ ∈ fw_tb := fw_in5 36 rfl rfl
theorem wM_Walk_171 : Cond.methodLink "OneJoy$Walk" 171 ⟨"OneJoy$Walk", "markTrail", "(I)I"⟩ ∈ fw_tb := fw_in5 42 rfl rfl
theorem wM_Walk_38 : Cond.methodLink "OneJoy$Walk" 38 ⟨"OneJoy$Village", "take", "(LOneJoy$Village;)V"⟩ ∈ fw_tb := fw_in4 67 rfl rfl
theorem wM_Walk_5 : Cond.methodLink "OneJoy$Walk" 5 ⟨"java/lang/Object", "<init>", "()V"⟩ ∈ fw_tb := fw_in1 227 rfl rfl
theorem wM_Walk_50 : Cond.methodLink "OneJoy$Walk" 50 ⟨"OneJoy$Village", "all", "()I"⟩ ∈ fw_tb := fw_in4 68 rfl rfl
theorem wM_Walk_60 : Cond.methodLink "OneJoy$Walk" 60 ⟨"OneJoy$Walk", "reckonWishes", "(I)V"⟩ ∈ fw_tb := fw_in4 72 rfl rfl
theorem wM_Walk_67 : Cond.methodLink "OneJoy$Walk" 67 ⟨"OneJoy$Walk", "openDoors", "(I)V"⟩ ∈ fw_tb := fw_in4 106 rfl rfl
theorem wM_Walk_70 : Cond.methodLink "OneJoy$Walk" 70 ⟨"OneJoy$Walk", "restart", "()V"⟩ ∈ fw_tb := fw_in4 116 rfl rfl
theorem wM_Walk_82 : Cond.methodLink "OneJoy$Walk" 82 ⟨"OneJoy$Walk", "standAt", "(III)V"⟩ ∈ fw_tb := fw_in4 120 rfl rfl
theorem wM_Walk_91 : Cond.methodLink "OneJoy$Walk" 91 ⟨"OneJoy$Village", "watchers", "(II)I"⟩ ∈ fw_tb := fw_in4 110 rfl rfl
theorem wM_Walk_95 : Cond.methodLink "OneJoy$Walk" 95 ⟨"OneJoy$Rows", "has", "(II)Z"⟩ ∈ fw_tb := fw_in4 115 rfl rfl
theorem wM_Ways_101 : Cond.methodLink "OneJoy$Ways" 101 ⟨"OneJoy$Walk", "restart", "()V"⟩ ∈ fw_tb := fw_in5 161 rfl rfl
theorem wM_Ways_104 : Cond.methodLink "OneJoy$Ways" 104 ⟨"OneJoy$Walk", "hoursTo", "(I)I"⟩ ∈ fw_tb := fw_in5 162 rfl rfl
theorem wM_Ways_110 : Cond.methodLink "OneJoy$Ways" 110 ⟨"OneJoy$Ways", "isThere", "(II)Z"⟩ ∈ fw_tb := fw_in5 171 rfl rfl
theorem wM_Ways_116 : Cond.methodLink "OneJoy$Ways" 116 ⟨"OneJoy$Village", "trait", "(II)I"⟩ ∈ fw_tb := fw_in5 175 rfl rfl
theorem wM_Ways_120 : Cond.methodLink "OneJoy$Ways" 120 ⟨"OneJoy$Ways", "feasts", "(IIII)Z"⟩ ∈ fw_tb := fw_in5 176 rfl rfl
theorem wM_Ways_124 : Cond.methodLink "OneJoy$Ways" 124 ⟨"OneJoy$Walk", "want", "(II)V"⟩ ∈ fw_tb := fw_in5 180 rfl rfl
theorem wM_Ways_129 : Cond.methodLink "OneJoy$Ways" 129 ⟨"OneJoy$Ways", "gain", "(IIII)I"⟩ ∈ fw_tb := fw_in5 233 rfl rfl
theorem wM_Ways_132 : Cond.methodLink "OneJoy$Ways" 132 ⟨"OneJoy$Rows", "put", "([III)V"⟩ ∈ fw_tb := fw_in5 234 rfl rfl
theorem wM_Ways_136 : Cond.methodLink "OneJoy$Ways" 136 ⟨"OneJoy$Rows", "get", "([II)I"⟩ ∈ fw_tb := fw_in5 235 rfl rfl
theorem wM_Ways_3 : Cond.methodLink "OneJoy$Ways" 3 ⟨"java/lang/Object", "<init>", "()V"⟩ ∈ fw_tb := fw_in2 59 rfl rfl
theorem wM_Ways_31 : Cond.methodLink "OneJoy$Ways" 31 ⟨"OneJoy$Ways", "tryTurns", "(IIII)V"⟩ ∈ fw_tb := fw_in5 79 rfl rfl
theorem wM_Ways_35 : Cond.methodLink "OneJoy$Ways" 35 ⟨"OneJoy$Ways", "isWorse", "(I)Z"⟩ ∈ fw_tb := fw_in5 83 rfl rfl
theorem wM_Ways_39 : Cond.methodLink "OneJoy$Ways" 39 ⟨"OneJoy$Ways", "unsettled", "(I)I"⟩ ∈ fw_tb := fw_in5 93 rfl rfl
theorem wM_Ways_52 : Cond.methodLink "OneJoy$Ways" 52 ⟨"OneJoy$Walk", "standAt", "(III)V"⟩ ∈ fw_tb := fw_in5 101 rfl rfl
theorem wM_Ways_56 : Cond.methodLink "OneJoy$Ways" 56 ⟨"OneJoy$Walk", "hour", "()V"⟩ ∈ fw_tb := fw_in5 102 rfl rfl
theorem wM_Ways_59 : Cond.methodLink "OneJoy$Ways" 59 ⟨"java/lang/Integer", "bitCount", "(I)I"⟩ ∈ fw_tb := fw_in5 87 rfl rfl
theorem wM_Ways_64 : Cond.methodLink "OneJoy$Ways" 64 ⟨"OneJoy$Walk", "doorCount", "()I"⟩ ∈ fw_tb := fw_in5 97 rfl rfl
theorem wM_Ways_68 : Cond.methodLink "OneJoy$Ways" 68 ⟨"OneJoy$Walk", "door", "(I)I"⟩ ∈ fw_tb := fw_in5 98 rfl rfl
theorem wM_Ways_71 : Cond.methodLink "OneJoy$Ways" 71 ⟨"OneJoy$Rows", "has", "(II)Z"⟩ ∈ fw_tb := fw_in5 99 rfl rfl
theorem wM_Ways_77 : Cond.methodLink "OneJoy$Ways" 77 ⟨"OneJoy$Walk", "isCalled", "()Z"⟩ ∈ fw_tb := fw_in5 100 rfl rfl
theorem wM_Ways_90 : Cond.methodLink "OneJoy$Ways" 90 ⟨"OneJoy$Ways", "shutMore", "(IIII)I"⟩ ∈ fw_tb := fw_in5 156 rfl rfl
theorem wM_Ways_97 : Cond.methodLink "OneJoy$Ways" 97 ⟨"OneJoy$Walk", "openDoors", "(I)V"⟩ ∈ fw_tb := fw_in5 160 rfl rfl
theorem wN_Acts : Cond.instantiable "OneJoy$Acts" 6 ∈ fw_tb := fw_in1 198 rfl rfl
theorem wN_Joy : Cond.instantiable "OneJoy" 16 ∈ fw_tb := fw_in1 27 rfl rfl
theorem wN_LText : Cond.instantiable "OneJoy$LawText" 2 ∈ fw_tb := fw_in1 157 rfl rfl
theorem wN_Law : Cond.instantiable "OneJoy$Law" 5 ∈ fw_tb := fw_in1 163 rfl rfl
theorem wN_Mod : Cond.instantiable "OneJoyModel" 50 ∈ fw_tb := fw_in6 152 rfl rfl
theorem wN_Seen : Cond.instantiable "OneJoy$Seen" 9 ∈ fw_tb := fw_in2 94 rfl rfl
theorem wN_Spread : Cond.instantiable "OneJoy$Spread" 3 ∈ fw_tb := fw_in2 77 rfl rfl
theorem wN_Tape : Cond.instantiable "OneJoy$Tape" 4 ∈ fw_tb := fw_in1 35 rfl rfl
theorem wN_VText : Cond.instantiable "OneJoy$VillageText" 4 ∈ fw_tb := fw_in1 55 rfl rfl
theorem wN_Vil : Cond.instantiable "OneJoy$Village" 15 ∈ fw_tb := fw_in1 61 rfl rfl
theorem wN_Walk : Cond.instantiable "OneJoy$Walk" 16 ∈ fw_tb := fw_in1 223 rfl rfl
theorem wN_Ways : Cond.instantiable "OneJoy$Ways" 5 ∈ fw_tb := fw_in2 55 rfl rfl
theorem kc_bipush_m2 : (Int8.ofInt (-2)).toInt32 = (-2 : Int32) := by decide
theorem kc_bipush_6 : (Int8.ofInt (6)).toInt32 = (6 : Int32) := by decide
theorem kc_bipush_7 : (Int8.ofInt (7)).toInt32 = (7 : Int32) := by decide
theorem kc_bipush_8 : (Int8.ofInt (8)).toInt32 = (8 : Int32) := by decide
theorem kc_bipush_9 : (Int8.ofInt (9)).toInt32 = (9 : Int32) := by decide
theorem kc_bipush_10 : (Int8.ofInt (10)).toInt32 = (10 : Int32) := by decide
theorem kc_bipush_11 : (Int8.ofInt (11)).toInt32 = (11 : Int32) := by decide
theorem kc_bipush_12 : (Int8.ofInt (12)).toInt32 = (12 : Int32) := by decide
theorem kc_bipush_13 : (Int8.ofInt (13)).toInt32 = (13 : Int32) := by decide
theorem kc_bipush_16 : (Int8.ofInt (16)).toInt32 = (16 : Int32) := by decide
theorem kc_bipush_20 : (Int8.ofInt (20)).toInt32 = (20 : Int32) := by decide
theorem kc_bipush_21 : (Int8.ofInt (21)).toInt32 = (21 : Int32) := by decide
theorem kc_bipush_23 : (Int8.ofInt (23)).toInt32 = (23 : Int32) := by decide
theorem kc_bipush_24 : (Int8.ofInt (24)).toInt32 = (24 : Int32) := by decide
theorem kc_bipush_30 : (Int8.ofInt (30)).toInt32 = (30 : Int32) := by decide
theorem kc_bipush_31 : (Int8.ofInt (31)).toInt32 = (31 : Int32) := by decide
theorem kc_bipush_32 : (Int8.ofInt (32)).toInt32 = (32 : Int32) := by decide
theorem kc_bipush_33 : (Int8.ofInt (33)).toInt32 = (33 : Int32) := by decide
theorem kc_bipush_36 : (Int8.ofInt (36)).toInt32 = (36 : Int32) := by decide
theorem kc_bipush_38 : (Int8.ofInt (38)).toInt32 = (38 : Int32) := by decide
theorem kc_bipush_40 : (Int8.ofInt (40)).toInt32 = (40 : Int32) := by decide
theorem kc_bipush_41 : (Int8.ofInt (41)).toInt32 = (41 : Int32) := by decide
theorem kc_bipush_42 : (Int8.ofInt (42)).toInt32 = (42 : Int32) := by decide
theorem kc_bipush_43 : (Int8.ofInt (43)).toInt32 = (43 : Int32) := by decide
theorem kc_bipush_45 : (Int8.ofInt (45)).toInt32 = (45 : Int32) := by decide
theorem kc_bipush_47 : (Int8.ofInt (47)).toInt32 = (47 : Int32) := by decide
theorem kc_bipush_48 : (Int8.ofInt (48)).toInt32 = (48 : Int32) := by decide
theorem kc_bipush_52 : (Int8.ofInt (52)).toInt32 = (52 : Int32) := by decide
theorem kc_bipush_53 : (Int8.ofInt (53)).toInt32 = (53 : Int32) := by decide
theorem kc_bipush_54 : (Int8.ofInt (54)).toInt32 = (54 : Int32) := by decide
theorem kc_bipush_55 : (Int8.ofInt (55)).toInt32 = (55 : Int32) := by decide
theorem kc_bipush_56 : (Int8.ofInt (56)).toInt32 = (56 : Int32) := by decide
theorem kc_bipush_57 : (Int8.ofInt (57)).toInt32 = (57 : Int32) := by decide
theorem kc_bipush_58 : (Int8.ofInt (58)).toInt32 = (58 : Int32) := by decide
theorem kc_bipush_59 : (Int8.ofInt (59)).toInt32 = (59 : Int32) := by decide
theorem kc_bipush_60 : (Int8.ofInt (60)).toInt32 = (60 : Int32) := by decide
theorem kc_bipush_61 : (Int8.ofInt (61)).toInt32 = (61 : Int32) := by decide
theorem kc_bipush_62 : (Int8.ofInt (62)).toInt32 = (62 : Int32) := by decide
theorem kc_bipush_63 : (Int8.ofInt (63)).toInt32 = (63 : Int32) := by decide
theorem kc_bipush_72 : (Int8.ofInt (72)).toInt32 = (72 : Int32) := by decide
theorem kc_bipush_80 : (Int8.ofInt (80)).toInt32 = (80 : Int32) := by decide
theorem kc_bipush_91 : (Int8.ofInt (91)).toInt32 = (91 : Int32) := by decide
theorem kc_bipush_93 : (Int8.ofInt (93)).toInt32 = (93 : Int32) := by decide
theorem kc_bipush_97 : (Int8.ofInt (97)).toInt32 = (97 : Int32) := by decide
theorem kc_bipush_98 : (Int8.ofInt (98)).toInt32 = (98 : Int32) := by decide
theorem kc_bipush_99 : (Int8.ofInt (99)).toInt32 = (99 : Int32) := by decide
theorem kc_bipush_100 : (Int8.ofInt (100)).toInt32 = (100 : Int32) := by decide
theorem kc_bipush_101 : (Int8.ofInt (101)).toInt32 = (101 : Int32) := by decide
theorem kc_bipush_104 : (Int8.ofInt (104)).toInt32 = (104 : Int32) := by decide
theorem kc_bipush_107 : (Int8.ofInt (107)).toInt32 = (107 : Int32) := by decide
theorem kc_bipush_109 : (Int8.ofInt (109)).toInt32 = (109 : Int32) := by decide
theorem kc_bipush_111 : (Int8.ofInt (111)).toInt32 = (111 : Int32) := by decide
theorem kc_bipush_112 : (Int8.ofInt (112)).toInt32 = (112 : Int32) := by decide
theorem kc_bipush_116 : (Int8.ofInt (116)).toInt32 = (116 : Int32) := by decide
theorem kc_bipush_117 : (Int8.ofInt (117)).toInt32 = (117 : Int32) := by decide
theorem kc_bipush_118 : (Int8.ofInt (118)).toInt32 = (118 : Int32) := by decide
theorem kc_bipush_119 : (Int8.ofInt (119)).toInt32 = (119 : Int32) := by decide
theorem kc_bipush_121 : (Int8.ofInt (121)).toInt32 = (121 : Int32) := by decide
theorem kc_bipush_124 : (Int8.ofInt (124)).toInt32 = (124 : Int32) := by decide
theorem kc_iconst_m8 : Int32.ofInt (-8) = (-8 : Int32) := by decide
theorem kc_iconst_m1 : Int32.ofInt (-1) = (-1 : Int32) := by decide
theorem kc_iconst_0 : Int32.ofInt (0) = (0 : Int32) := by decide
theorem kc_iconst_1 : Int32.ofInt (1) = (1 : Int32) := by decide
theorem kc_iconst_2 : Int32.ofInt (2) = (2 : Int32) := by decide
theorem kc_iconst_3 : Int32.ofInt (3) = (3 : Int32) := by decide
theorem kc_iconst_4 : Int32.ofInt (4) = (4 : Int32) := by decide
theorem kc_iconst_5 : Int32.ofInt (5) = (5 : Int32) := by decide
theorem kc_iconst_6 : Int32.ofInt (6) = (6 : Int32) := by decide
theorem kc_sipush_140 : (Int16.ofInt (140)).toInt32 = (140 : Int32) := by decide
theorem kc_sipush_144 : (Int16.ofInt (144)).toInt32 = (144 : Int32) := by decide
theorem kc_sipush_156 : (Int16.ofInt (156)).toInt32 = (156 : Int32) := by decide
theorem kc_sipush_240 : (Int16.ofInt (240)).toInt32 = (240 : Int32) := by decide
theorem kc_sipush_255 : (Int16.ofInt (255)).toInt32 = (255 : Int32) := by decide
theorem kc_sipush_520 : (Int16.ofInt (520)).toInt32 = (520 : Int32) := by decide
theorem kc_sipush_576 : (Int16.ofInt (576)).toInt32 = (576 : Int32) := by decide
theorem kc_sipush_700 : (Int16.ofInt (700)).toInt32 = (700 : Int32) := by decide
theorem kc_sipush_2600 : (Int16.ofInt (2600)).toInt32 = (2600 : Int32) := by decide
theorem kc_sipush_3744 : (Int16.ofInt (3744)).toInt32 = (3744 : Int32) := by decide
theorem kc_sipush_3745 : (Int16.ofInt (3745)).toInt32 = (3745 : Int32) := by decide
theorem kc_sipush_4720 : (Int16.ofInt (4720)).toInt32 = (4720 : Int32) := by decide
theorem kc_sipush_9999 : (Int16.ofInt (9999)).toInt32 = (9999 : Int32) := by decide
theorem kc_sipush_10000 : (Int16.ofInt (10000)).toInt32 = (10000 : Int32) := by decide
theorem dfl_0 : ([fw_r none, fw_r none, fw_r none, fw_r none, fw_i 0, fw_i 0] : List fw_V).length = 6 ∧ ∀ j, j < 6 → (parseFieldDescriptor (TX0 j).2.2.1).bind (fun ty => some (defaultValue ty)) = ([fw_r none, fw_r none, fw_r none, fw_r none, fw_i 0, fw_i 0] : List fw_V)[j]?.bind fw_dfl := ⟨rfl, by decide +kernel⟩
theorem dfl_1 : ([fw_r none, fw_r none, fw_i 0, fw_i 0, fw_i 0] : List fw_V).length = 5 ∧ ∀ j, j < 5 → (parseFieldDescriptor (TX1 j).2.2.1).bind (fun ty => some (defaultValue ty)) = ([fw_r none, fw_r none, fw_i 0, fw_i 0, fw_i 0] : List fw_V)[j]?.bind fw_dfl := ⟨rfl, by decide +kernel⟩
theorem dfl_2 : ([fw_r none, fw_r none] : List fw_V).length = 2 ∧ ∀ j, j < 2 → (parseFieldDescriptor (TX2 j).2.2.1).bind (fun ty => some (defaultValue ty)) = ([fw_r none, fw_r none] : List fw_V)[j]?.bind fw_dfl := ⟨rfl, by decide +kernel⟩
theorem dfl_3 : ([] : List fw_V).length = 0 ∧ ∀ j, j < 0 → (parseFieldDescriptor (TX3 j).2.2.1).bind (fun ty => some (defaultValue ty)) = ([] : List fw_V)[j]?.bind fw_dfl := ⟨rfl, by decide +kernel⟩
theorem dfl_4 : ([fw_r none, fw_r none, fw_r none, fw_i 0, fw_r none, fw_i 0, fw_i 0, fw_i 0, fw_i 0] : List fw_V).length = 9 ∧ ∀ j, j < 9 → (parseFieldDescriptor (TX4 j).2.2.1).bind (fun ty => some (defaultValue ty)) = ([fw_r none, fw_r none, fw_r none, fw_i 0, fw_r none, fw_i 0, fw_i 0, fw_i 0, fw_i 0] : List fw_V)[j]?.bind fw_dfl := ⟨rfl, by decide +kernel⟩
theorem dfl_5 : ([fw_r none, fw_r none, fw_r none] : List fw_V).length = 3 ∧ ∀ j, j < 3 → (parseFieldDescriptor (TX5 j).2.2.1).bind (fun ty => some (defaultValue ty)) = ([fw_r none, fw_r none, fw_r none] : List fw_V)[j]?.bind fw_dfl := ⟨rfl, by decide +kernel⟩
theorem dfl_6 : ([fw_r none, fw_i 0, fw_i 0, fw_i 0] : List fw_V).length = 4 ∧ ∀ j, j < 4 → (parseFieldDescriptor (TX6 j).2.2.1).bind (fun ty => some (defaultValue ty)) = ([fw_r none, fw_i 0, fw_i 0, fw_i 0] : List fw_V)[j]?.bind fw_dfl := ⟨rfl, by decide +kernel⟩
theorem dfl_7 : ([fw_i 0, fw_i 0, fw_r none, fw_r none, fw_r none, fw_i 0, fw_i 0, fw_i 0, fw_i 0, fw_i 0, fw_i 0, fw_i 0, fw_i 0, fw_r none, fw_i 0] : List fw_V).length = 15 ∧ ∀ j, j < 15 → (parseFieldDescriptor (TX7 j).2.2.1).bind (fun ty => some (defaultValue ty)) = ([fw_i 0, fw_i 0, fw_r none, fw_r none, fw_r none, fw_i 0, fw_i 0, fw_i 0, fw_i 0, fw_i 0, fw_i 0, fw_i 0, fw_i 0, fw_r none, fw_i 0] : List fw_V)[j]?.bind fw_dfl := ⟨rfl, by decide +kernel⟩
theorem dfl_8 : ([fw_r none, fw_r none, fw_r none, fw_i 0] : List fw_V).length = 4 ∧ ∀ j, j < 4 → (parseFieldDescriptor (TX8 j).2.2.1).bind (fun ty => some (defaultValue ty)) = ([fw_r none, fw_r none, fw_r none, fw_i 0] : List fw_V)[j]?.bind fw_dfl := ⟨rfl, by decide +kernel⟩
theorem dfl_9 : ([fw_r none, fw_r none, fw_i 0, fw_i 0, fw_i 0, fw_i 0, fw_i 0, fw_r none, fw_r none, fw_r none, fw_r none, fw_r none, fw_i 0, fw_i 0, fw_i 0, fw_i 0] : List fw_V).length = 16 ∧ ∀ j, j < 16 → (parseFieldDescriptor (TX9 j).2.2.1).bind (fun ty => some (defaultValue ty)) = ([fw_r none, fw_r none, fw_i 0, fw_i 0, fw_i 0, fw_i 0, fw_i 0, fw_r none, fw_r none, fw_r none, fw_r none, fw_r none, fw_i 0, fw_i 0, fw_i 0, fw_i 0] : List fw_V)[j]?.bind fw_dfl := ⟨rfl, by decide +kernel⟩
theorem dfl_10 : ([fw_r none, fw_i 0, fw_i 0, fw_i 0, fw_r none] : List fw_V).length = 5 ∧ ∀ j, j < 5 → (parseFieldDescriptor (TX10 j).2.2.1).bind (fun ty => some (defaultValue ty)) = ([fw_r none, fw_i 0, fw_i 0, fw_i 0, fw_r none] : List fw_V)[j]?.bind fw_dfl := ⟨rfl, by decide +kernel⟩
theorem dfl_11 : ([fw_r none, fw_r none, fw_r none, fw_r none, fw_r none, fw_i 0, fw_r none, fw_r none, fw_i 0, fw_i 0, fw_r none, fw_i 0, fw_r none, fw_r none, fw_r none, fw_r none] : List fw_V).length = 16 ∧ ∀ j, j < 16 → (parseFieldDescriptor (TX11 j).2.2.1).bind (fun ty => some (defaultValue ty)) = ([fw_r none, fw_r none, fw_r none, fw_r none, fw_r none, fw_i 0, fw_r none, fw_r none, fw_i 0, fw_i 0, fw_r none, fw_i 0, fw_r none, fw_r none, fw_r none, fw_r none] : List fw_V)[j]?.bind fw_dfl := ⟨rfl, by decide +kernel⟩
theorem dfl_12 : ([fw_i 0, fw_r none, fw_i 0, fw_i 0, fw_i 0, fw_i 0, fw_r none, fw_r none, fw_r none, fw_r none, fw_r none, fw_r none, fw_r none, fw_i 0, fw_i 0, fw_r none, fw_r none, fw_r none, fw_r none, fw_r none, fw_i 0, fw_i 0, fw_r none, fw_r none, fw_i 0, fw_i 0, fw_r none, fw_r none, fw_i 0, fw_i 0, fw_r none, fw_i 0, fw_i 0, fw_i 0, fw_i 0, fw_r none, fw_i 0, fw_i 0, fw_i 0, fw_i 0, fw_r none, fw_r none, fw_r none, fw_r none, fw_r none, fw_r none, fw_r none, fw_i 0, fw_r none, fw_i 0] : List fw_V).length = 50 ∧ ∀ j, j < 50 → (parseFieldDescriptor (TX12 j).2.2.1).bind (fun ty => some (defaultValue ty)) = ([fw_i 0, fw_r none, fw_i 0, fw_i 0, fw_i 0, fw_i 0, fw_r none, fw_r none, fw_r none, fw_r none, fw_r none, fw_r none, fw_r none, fw_i 0, fw_i 0, fw_r none, fw_r none, fw_r none, fw_r none, fw_r none, fw_i 0, fw_i 0, fw_r none, fw_r none, fw_i 0, fw_i 0, fw_r none, fw_r none, fw_i 0, fw_i 0, fw_r none, fw_i 0, fw_i 0, fw_i 0, fw_i 0, fw_r none, fw_i 0, fw_i 0, fw_i 0, fw_i 0, fw_r none, fw_r none, fw_r none, fw_r none, fw_r none, fw_r none, fw_r none, fw_i 0, fw_r none, fw_i 0] : List fw_V)[j]?.bind fw_dfl := ⟨rfl, by decide +kernel⟩
