theorem tw_1016 : (Cond.constant "LineGuardModel" 185 (1322822218) : Cond) ∈ uT := uni_mem (tt4 (List.mem_of_getElem? (i := 232) (by decide +kernel))) rfl
theorem tw_1017 : (Cond.constant "LineGuardModel" 186 (1537002063) : Cond) ∈ uT := uni_mem (tt4 (List.mem_of_getElem? (i := 233) (by decide +kernel))) rfl
theorem tw_1018 : (Cond.constant "LineGuardModel" 187 (1747873779) : Cond) ∈ uT := uni_mem (tt4 (List.mem_of_getElem? (i := 234) (by decide +kernel))) rfl
theorem tw_1019 : (Cond.constant "LineGuardModel" 188 (1955562222) : Cond) ∈ uT := uni_mem (tt4 (List.mem_of_getElem? (i := 235) (by decide +kernel))) rfl
theorem tw_1020 : (Cond.constant "LineGuardModel" 189 (2024104815) : Cond) ∈ uT := uni_mem (tt4 (List.mem_of_getElem? (i := 236) (by decide +kernel))) rfl
theorem tw_1021 : (Cond.constant "LineGuardModel" 190 (-2067236844) : Cond) ∈ uT := uni_mem (tt4 (List.mem_of_getElem? (i := 237) (by decide +kernel))) rfl
theorem tw_1022 : (Cond.constant "LineGuardModel" 191 (-1933114872) : Cond) ∈ uT := uni_mem (tt4 (List.mem_of_getElem? (i := 238) (by decide +kernel))) rfl
theorem tw_1023 : (Cond.constant "LineGuardModel" 192 (-1866530822) : Cond) ∈ uT := uni_mem (tt4 (List.mem_of_getElem? (i := 239) (by decide +kernel))) rfl
theorem tw_1024 : (Cond.constant "LineGuardModel" 193 (-1538233109) : Cond) ∈ uT := uni_mem (tt5 (List.mem_of_getElem? (i := 0) (by decide +kernel))) rfl
theorem tw_1025 : (Cond.constant "LineGuardModel" 194 (-1090935817) : Cond) ∈ uT := uni_mem (tt5 (List.mem_of_getElem? (i := 1) (by decide +kernel))) rfl
theorem tw_1026 : (Cond.constant "LineGuardModel" 195 (-965641998) : Cond) ∈ uT := uni_mem (tt5 (List.mem_of_getElem? (i := 2) (by decide +kernel))) rfl
theorem tw_1027 : (Cond.constant "LineGuardModel" 199 (1779033703) : Cond) ∈ uT := uni_mem (tt5 (List.mem_of_getElem? (i := 3) (by decide +kernel))) rfl
theorem tw_1028 : (Cond.constant "LineGuardModel" 200 (-1150833019) : Cond) ∈ uT := uni_mem (tt5 (List.mem_of_getElem? (i := 4) (by decide +kernel))) rfl
theorem tw_1029 : (Cond.constant "LineGuardModel" 201 (1013904242) : Cond) ∈ uT := uni_mem (tt5 (List.mem_of_getElem? (i := 5) (by decide +kernel))) rfl
theorem tw_1030 : (Cond.constant "LineGuardModel" 202 (-1521486534) : Cond) ∈ uT := uni_mem (tt5 (List.mem_of_getElem? (i := 6) (by decide +kernel))) rfl
theorem tw_1031 : (Cond.constant "LineGuardModel" 203 (1359893119) : Cond) ∈ uT := uni_mem (tt5 (List.mem_of_getElem? (i := 7) (by decide +kernel))) rfl
theorem tw_1032 : (Cond.constant "LineGuardModel" 204 (-1694144372) : Cond) ∈ uT := uni_mem (tt5 (List.mem_of_getElem? (i := 8) (by decide +kernel))) rfl
theorem tw_1033 : (Cond.constant "LineGuardModel" 205 (528734635) : Cond) ∈ uT := uni_mem (tt5 (List.mem_of_getElem? (i := 9) (by decide +kernel))) rfl
theorem tw_1034 : (Cond.constant "LineGuardModel" 206 (1541459225) : Cond) ∈ uT := uni_mem (tt5 (List.mem_of_getElem? (i := 10) (by decide +kernel))) rfl
theorem tw_1035 : (Cond.methodLink "LineGuardModel" 295 ⟨"LineGuardModel", "makeBoxes", "()V"⟩ : Cond) ∈ uT := uni_mem (tt5 (List.mem_of_getElem? (i := 11) (by decide +kernel))) rfl
theorem tw_1037 : (Cond.instanceMethod ⟨"LineGuardModel", "makeBoxes", "()V"⟩ : Cond) ∈ uT := uni_mem (tt5 (List.mem_of_getElem? (i := 13) (by decide +kernel))) rfl
theorem tw_1038 : (Cond.code ⟨"LineGuardModel", "makeBoxes", "()V"⟩ prog_12_method_6_code 6 none : Cond) ∈ uT := uni_mem (tt5 (List.mem_of_getElem? (i := 14) rfl)) rfl
theorem tw_1039 : (Cond.methodLink "LineGuardModel" 52 ⟨"LineGuardModel", "times", "(II)I"⟩ : Cond) ∈ uT := uni_mem (tt5 (List.mem_of_getElem? (i := 15) (by decide +kernel))) rfl
theorem tw_1040 : (Cond.static ⟨"LineGuardModel", "times", "(II)I"⟩ : Cond) ∈ uT := uni_mem (tt5 (List.mem_of_getElem? (i := 16) (by decide +kernel))) rfl
theorem tw_1041 : (Cond.code ⟨"LineGuardModel", "times", "(II)I"⟩ prog_12_method_5_code 5 (some .int) : Cond) ∈ uT := uni_mem (tt5 (List.mem_of_getElem? (i := 17) rfl)) rfl
theorem tw_1042 : (Cond.methodLink "LineGuardModel" 48 ⟨"LineGuardModel", "twice", "(I)I"⟩ : Cond) ∈ uT := uni_mem (tt5 (List.mem_of_getElem? (i := 18) (by decide +kernel))) rfl
theorem tw_1043 : (Cond.static ⟨"LineGuardModel", "twice", "(I)I"⟩ : Cond) ∈ uT := uni_mem (tt5 (List.mem_of_getElem? (i := 19) (by decide +kernel))) rfl
theorem tw_1044 : (Cond.code ⟨"LineGuardModel", "twice", "(I)I"⟩ prog_12_method_4_code 1 (some .int) : Cond) ∈ uT := uni_mem (tt5 (List.mem_of_getElem? (i := 20) rfl)) rfl
theorem tw_1045 : (Cond.fieldLink "LineGuardModel" 23 "LineGuardModel" "ip" "[I" : Cond) ∈ uT := uni_mem (tt5 (List.mem_of_getElem? (i := 21) (by decide +kernel))) rfl
theorem tw_1046 : (Cond.fieldLink "LineGuardModel" 29 "LineGuardModel" "spread" "[I" : Cond) ∈ uT := uni_mem (tt5 (List.mem_of_getElem? (i := 22) (by decide +kernel))) rfl
theorem tw_1047 : (Cond.fieldLink "LineGuardModel" 41 "LineGuardModel" "mix" "[I" : Cond) ∈ uT := uni_mem (tt5 (List.mem_of_getElem? (i := 23) (by decide +kernel))) rfl
theorem tw_1048 : (Cond.fieldLink "LineGuardModel" 1 "LineGuardModel" "choice" "[I" : Cond) ∈ uT := uni_mem (tt5 (List.mem_of_getElem? (i := 24) (by decide +kernel))) rfl
theorem tw_1049 : (Cond.fieldLink "LineGuardModel" 13 "LineGuardModel" "second" "[I" : Cond) ∈ uT := uni_mem (tt5 (List.mem_of_getElem? (i := 25) (by decide +kernel))) rfl
theorem tw_1050 : (Cond.fieldLink "LineGuardModel" 32 "LineGuardModel" "boxes" "[I" : Cond) ∈ uT := uni_mem (tt5 (List.mem_of_getElem? (i := 26) (by decide +kernel))) rfl
theorem tw_1051 : (Cond.fieldLink "LineGuardModel" 196 "LineGuardModel" "rounds" "[I" : Cond) ∈ uT := uni_mem (tt5 (List.mem_of_getElem? (i := 27) (by decide +kernel))) rfl
theorem tw_1052 : (Cond.fieldLink "LineGuardModel" 207 "LineGuardModel" "first" "[I" : Cond) ∈ uT := uni_mem (tt5 (List.mem_of_getElem? (i := 28) (by decide +kernel))) rfl
theorem tw_1053 : (Cond.fieldLink "LineGuardModel" 56 "LineGuardModel" "sbox" "[I" : Cond) ∈ uT := uni_mem (tt5 (List.mem_of_getElem? (i := 29) (by decide +kernel))) rfl
theorem tw_1054 : (Cond.fieldLink "LineGuardModel" 59 "LineGuardModel" "unbox" "[I" : Cond) ∈ uT := uni_mem (tt5 (List.mem_of_getElem? (i := 30) (by decide +kernel))) rfl
theorem tw_1055 : (Cond.fieldLink "LineGuardModel" 20 "LineGuardModel" "bit" "[I" : Cond) ∈ uT := uni_mem (tt5 (List.mem_of_getElem? (i := 31) (by decide +kernel))) rfl
theorem tw_1056 : (Cond.fieldLink "LineGuardModel" 38 "LineGuardModel" "turned" "[I" : Cond) ∈ uT := uni_mem (tt5 (List.mem_of_getElem? (i := 32) (by decide +kernel))) rfl
theorem tw_1057 : (Cond.fieldLink "LineGuardModel" 7 "LineGuardModel" "cd" "[I" : Cond) ∈ uT := uni_mem (tt5 (List.mem_of_getElem? (i := 33) (by decide +kernel))) rfl
theorem tw_1058 : (Cond.fieldLink "LineGuardModel" 10 "LineGuardModel" "subkey" "[I" : Cond) ∈ uT := uni_mem (tt5 (List.mem_of_getElem? (i := 34) (by decide +kernel))) rfl
theorem tw_1059 : (Cond.fieldLink "LineGuardModel" 35 "LineGuardModel" "half" "[I" : Cond) ∈ uT := uni_mem (tt5 (List.mem_of_getElem? (i := 35) (by decide +kernel))) rfl
theorem tw_1060 : (Cond.fieldLink "LineGuardModel" 26 "LineGuardModel" "word" "[I" : Cond) ∈ uT := uni_mem (tt5 (List.mem_of_getElem? (i := 36) (by decide +kernel))) rfl
theorem tw_1061 : (Cond.fieldLink "LineGuardModel" 66 "LineGuardModel" "roundKey" "[B" : Cond) ∈ uT := uni_mem (tt5 (List.mem_of_getElem? (i := 37) (by decide +kernel))) rfl
theorem tw_1062 : (Cond.fieldLink "LineGuardModel" 62 "LineGuardModel" "aesRounds" "I" : Cond) ∈ uT := uni_mem (tt5 (List.mem_of_getElem? (i := 38) (by decide +kernel))) rfl
theorem tw_1063 : (Cond.fieldLink "LineGuardModel" 74 "LineGuardModel" "cell" "[B" : Cond) ∈ uT := uni_mem (tt5 (List.mem_of_getElem? (i := 39) (by decide +kernel))) rfl
theorem tw_1064 : (Cond.fieldLink "LineGuardModel" 210 "LineGuardModel" "w" "[I" : Cond) ∈ uT := uni_mem (tt5 (List.mem_of_getElem? (i := 40) (by decide +kernel))) rfl
theorem tw_1065 : (Cond.fieldLink "LineGuardModel" 213 "LineGuardModel" "sums" "[I" : Cond) ∈ uT := uni_mem (tt5 (List.mem_of_getElem? (i := 41) (by decide +kernel))) rfl
theorem tw_1066 : (Cond.fieldLink "LineGuardModel" 216 "LineGuardModel" "sha" "[B" : Cond) ∈ uT := uni_mem (tt5 (List.mem_of_getElem? (i := 42) (by decide +kernel))) rfl
theorem tw_1067 : (Cond.fieldLink "LineGuardModel" 84 "LineGuardModel" "m" "[B" : Cond) ∈ uT := uni_mem (tt5 (List.mem_of_getElem? (i := 43) (by decide +kernel))) rfl
theorem tw_1068 : (Cond.fieldLink "LineGuardModel" 81 "LineGuardModel" "mn" "I" : Cond) ∈ uT := uni_mem (tt5 (List.mem_of_getElem? (i := 44) (by decide +kernel))) rfl
theorem tw_1069 : (Cond.fieldLink "LineGuardModel" 94 "LineGuardModel" "mac" "[B" : Cond) ∈ uT := uni_mem (tt5 (List.mem_of_getElem? (i := 45) (by decide +kernel))) rfl
theorem tw_1070 : (Cond.fieldLink "LineGuardModel" 103 "LineGuardModel" "k1" "[B" : Cond) ∈ uT := uni_mem (tt5 (List.mem_of_getElem? (i := 46) (by decide +kernel))) rfl
theorem tw_1071 : (Cond.fieldLink "LineGuardModel" 118 "LineGuardModel" "over" "[B" : Cond) ∈ uT := uni_mem (tt5 (List.mem_of_getElem? (i := 47) (by decide +kernel))) rfl
theorem tw_1072 : (Cond.fieldLink "LineGuardModel" 219 "LineGuardModel" "tape" "[B" : Cond) ∈ uT := uni_mem (tt5 (List.mem_of_getElem? (i := 48) (by decide +kernel))) rfl
theorem tw_1073 : (Cond.fieldLink "LineGuardModel" 298 "LineGuardModel" "taped" "I" : Cond) ∈ uT := uni_mem (tt5 (List.mem_of_getElem? (i := 49) (by decide +kernel))) rfl
theorem tw_1074 : (Cond.fieldLink "LineGuardModel" 222 "LineGuardModel" "out" "[B" : Cond) ∈ uT := uni_mem (tt5 (List.mem_of_getElem? (i := 50) (by decide +kernel))) rfl
theorem tw_1075 : (Cond.fieldLink "LineGuardModel" 304 "LineGuardModel" "outSize" "I" : Cond) ∈ uT := uni_mem (tt5 (List.mem_of_getElem? (i := 51) (by decide +kernel))) rfl
theorem tw_1076 : (Cond.fieldLink "LineGuardModel" 225 "LineGuardModel" "line" "[B" : Cond) ∈ uT := uni_mem (tt5 (List.mem_of_getElem? (i := 52) (by decide +kernel))) rfl
theorem tw_1077 : (Cond.fieldLink "LineGuardModel" 307 "LineGuardModel" "lineSize" "I" : Cond) ∈ uT := uni_mem (tt5 (List.mem_of_getElem? (i := 53) (by decide +kernel))) rfl
theorem tw_1078 : (Cond.fieldLink "LineGuardModel" 228 "LineGuardModel" "name" "[B" : Cond) ∈ uT := uni_mem (tt5 (List.mem_of_getElem? (i := 54) (by decide +kernel))) rfl
theorem tw_1079 : (Cond.fieldLink "LineGuardModel" 321 "LineGuardModel" "nameSize" "I" : Cond) ∈ uT := uni_mem (tt5 (List.mem_of_getElem? (i := 55) (by decide +kernel))) rfl
theorem tw_1080 : (Cond.fieldLink "LineGuardModel" 325 "LineGuardModel" "counter" "I" : Cond) ∈ uT := uni_mem (tt5 (List.mem_of_getElem? (i := 56) (by decide +kernel))) rfl
theorem tw_1081 : (Cond.fieldLink "LineGuardModel" 231 "LineGuardModel" "rule" "[I" : Cond) ∈ uT := uni_mem (tt5 (List.mem_of_getElem? (i := 57) (by decide +kernel))) rfl
theorem tw_1082 : (Cond.fieldLink "LineGuardModel" 234 "LineGuardModel" "length" "[I" : Cond) ∈ uT := uni_mem (tt5 (List.mem_of_getElem? (i := 58) (by decide +kernel))) rfl
theorem tw_1083 : (Cond.fieldLink "LineGuardModel" 237 "LineGuardModel" "told" "[B" : Cond) ∈ uT := uni_mem (tt5 (List.mem_of_getElem? (i := 59) (by decide +kernel))) rfl
theorem tw_1084 : (Cond.fieldLink "LineGuardModel" 240 "LineGuardModel" "session" "[I" : Cond) ∈ uT := uni_mem (tt5 (List.mem_of_getElem? (i := 60) (by decide +kernel))) rfl
theorem tw_1085 : (Cond.fieldLink "LineGuardModel" 243 "LineGuardModel" "level" "[I" : Cond) ∈ uT := uni_mem (tt5 (List.mem_of_getElem? (i := 61) (by decide +kernel))) rfl
theorem tw_1086 : (Cond.fieldLink "LineGuardModel" 246 "LineGuardModel" "keys" "[B" : Cond) ∈ uT := uni_mem (tt5 (List.mem_of_getElem? (i := 62) (by decide +kernel))) rfl
theorem tw_1087 : (Cond.fieldLink "LineGuardModel" 249 "LineGuardModel" "own" "[B" : Cond) ∈ uT := uni_mem (tt5 (List.mem_of_getElem? (i := 63) (by decide +kernel))) rfl
theorem tw_1088 : (Cond.fieldLink "LineGuardModel" 252 "LineGuardModel" "theirs" "[B" : Cond) ∈ uT := uni_mem (tt5 (List.mem_of_getElem? (i := 64) (by decide +kernel))) rfl
theorem tw_1089 : (Cond.fieldLink "LineGuardModel" 255 "LineGuardModel" "check" "[B" : Cond) ∈ uT := uni_mem (tt5 (List.mem_of_getElem? (i := 65) (by decide +kernel))) rfl
theorem tw_1090 : (Cond.fieldLink "LineGuardModel" 258 "LineGuardModel" "chain" "[B" : Cond) ∈ uT := uni_mem (tt5 (List.mem_of_getElem? (i := 66) (by decide +kernel))) rfl
theorem tw_1091 : (Cond.fieldLink "LineGuardModel" 261 "LineGuardModel" "backChain" "[B" : Cond) ∈ uT := uni_mem (tt5 (List.mem_of_getElem? (i := 67) (by decide +kernel))) rfl
theorem tw_1092 : (Cond.fieldLink "LineGuardModel" 264 "LineGuardModel" "count" "[I" : Cond) ∈ uT := uni_mem (tt5 (List.mem_of_getElem? (i := 68) (by decide +kernel))) rfl
theorem tw_1093 : (Cond.fieldLink "LineGuardModel" 267 "LineGuardModel" "has" "[Z" : Cond) ∈ uT := uni_mem (tt5 (List.mem_of_getElem? (i := 69) (by decide +kernel))) rfl
theorem tw_1094 : (Cond.fieldLink "LineGuardModel" 271 "LineGuardModel" "command" "[B" : Cond) ∈ uT := uni_mem (tt5 (List.mem_of_getElem? (i := 70) (by decide +kernel))) rfl
theorem tw_1095 : (Cond.fieldLink "LineGuardModel" 274 "LineGuardModel" "commandSize" "[I" : Cond) ∈ uT := uni_mem (tt5 (List.mem_of_getElem? (i := 71) (by decide +kernel))) rfl
theorem tw_1096 : (Cond.fieldLink "LineGuardModel" 277 "LineGuardModel" "host" "[B" : Cond) ∈ uT := uni_mem (tt5 (List.mem_of_getElem? (i := 72) (by decide +kernel))) rfl
theorem tw_1097 : (Cond.fieldLink "LineGuardModel" 280 "LineGuardModel" "number" "[B" : Cond) ∈ uT := uni_mem (tt5 (List.mem_of_getElem? (i := 73) (by decide +kernel))) rfl
theorem tw_1098 : (Cond.fieldLink "LineGuardModel" 283 "LineGuardModel" "block" "[B" : Cond) ∈ uT := uni_mem (tt5 (List.mem_of_getElem? (i := 74) (by decide +kernel))) rfl
theorem tw_1099 : (Cond.fieldLink "LineGuardModel" 286 "LineGuardModel" "work" "[B" : Cond) ∈ uT := uni_mem (tt5 (List.mem_of_getElem? (i := 75) (by decide +kernel))) rfl
theorem tw_1100 : (Cond.fieldLink "LineGuardModel" 289 "LineGuardModel" "code" "[B" : Cond) ∈ uT := uni_mem (tt5 (List.mem_of_getElem? (i := 76) (by decide +kernel))) rfl
theorem tw_1101 : (Cond.fieldLink "LineGuardModel" 292 "LineGuardModel" "ahead" "[B" : Cond) ∈ uT := uni_mem (tt5 (List.mem_of_getElem? (i := 77) (by decide +kernel))) rfl
theorem tw_1216 : (Cond.superclass "LineGuardModel" "java/lang/Object" : Cond) ∈ uT := uni_mem (tt5 (List.mem_of_getElem? (i := 192) (by decide +kernel))) rfl
theorem tw_1217 : (Cond.arrayClass .byte : Cond) ∈ uT := uni_mem (tt5 (List.mem_of_getElem? (i := 193) (by decide +kernel))) rfl
theorem tw_1218 : (Cond.arrayClass .boolean : Cond) ∈ uT := uni_mem (tt5 (List.mem_of_getElem? (i := 194) (by decide +kernel))) rfl
theorem tw_1219 : (Cond.methodLink "LineGuardLaw" 17 ⟨"LineGuardModel", "feed", "(IIIII)I"⟩ : Cond) ∈ uT := uni_mem (tt5 (List.mem_of_getElem? (i := 195) (by decide +kernel))) rfl
theorem tw_1220 : (Cond.instanceMethod ⟨"LineGuardModel", "feed", "(IIIII)I"⟩ : Cond) ∈ uT := uni_mem (tt5 (List.mem_of_getElem? (i := 196) (by decide +kernel))) rfl
theorem tw_1221 : (Cond.selects "LineGuardModel" ⟨"LineGuardModel", "feed", "(IIIII)I"⟩ ⟨"LineGuardModel", "feed", "(IIIII)I"⟩ : Cond) ∈ uT := uni_mem (tt5 (List.mem_of_getElem? (i := 197) (by decide +kernel))) rfl
theorem tw_1222 : (Cond.code ⟨"LineGuardModel", "feed", "(IIIII)I"⟩ prog_12_method_22_code 6 (some .int) : Cond) ∈ uT := uni_mem (tt5 (List.mem_of_getElem? (i := 198) rfl)) rfl
theorem tw_1223 : (Cond.methodLink "LineGuardModel" 301 ⟨"LineGuardModel", "putFour", "(I)V"⟩ : Cond) ∈ uT := uni_mem (tt5 (List.mem_of_getElem? (i := 199) (by decide +kernel))) rfl
theorem tw_1225 : (Cond.instanceMethod ⟨"LineGuardModel", "putFour", "(I)V"⟩ : Cond) ∈ uT := uni_mem (tt5 (List.mem_of_getElem? (i := 201) (by decide +kernel))) rfl
theorem tw_1226 : (Cond.code ⟨"LineGuardModel", "putFour", "(I)V"⟩ prog_12_method_21_code 3 none : Cond) ∈ uT := uni_mem (tt5 (List.mem_of_getElem? (i := 202) rfl)) rfl
theorem tw_1227 : (Cond.methodLink "LineGuardLaw" 22 ⟨"LineGuardModel", "end", "(I)I"⟩ : Cond) ∈ uT := uni_mem (tt5 (List.mem_of_getElem? (i := 203) (by decide +kernel))) rfl
theorem tw_1228 : (Cond.instanceMethod ⟨"LineGuardModel", "end", "(I)I"⟩ : Cond) ∈ uT := uni_mem (tt5 (List.mem_of_getElem? (i := 204) (by decide +kernel))) rfl
theorem tw_1229 : (Cond.selects "LineGuardModel" ⟨"LineGuardModel", "end", "(I)I"⟩ ⟨"LineGuardModel", "end", "(I)I"⟩ : Cond) ∈ uT := uni_mem (tt5 (List.mem_of_getElem? (i := 205) (by decide +kernel))) rfl
theorem tw_1230 : (Cond.code ⟨"LineGuardModel", "end", "(I)I"⟩ prog_12_method_23_code 2 (some .int) : Cond) ∈ uT := uni_mem (tt5 (List.mem_of_getElem? (i := 206) rfl)) rfl
theorem tw_1231 : (Cond.methodLink "LineGuardLaw" 26 ⟨"LineGuardModel", "out", "(I)I"⟩ : Cond) ∈ uT := uni_mem (tt5 (List.mem_of_getElem? (i := 207) (by decide +kernel))) rfl
theorem tw_1232 : (Cond.instanceMethod ⟨"LineGuardModel", "out", "(I)I"⟩ : Cond) ∈ uT := uni_mem (tt5 (List.mem_of_getElem? (i := 208) (by decide +kernel))) rfl
theorem tw_1233 : (Cond.selects "LineGuardModel" ⟨"LineGuardModel", "out", "(I)I"⟩ ⟨"LineGuardModel", "out", "(I)I"⟩ : Cond) ∈ uT := uni_mem (tt5 (List.mem_of_getElem? (i := 209) (by decide +kernel))) rfl
theorem tw_1234 : (Cond.code ⟨"LineGuardModel", "out", "(I)I"⟩ prog_12_method_24_code 2 (some .int) : Cond) ∈ uT := uni_mem (tt5 (List.mem_of_getElem? (i := 210) rfl)) rfl
theorem tw_1235 : (Cond.methodLink "LineGuardLaw" 30 ⟨"LineGuardModel", "line", "(I)I"⟩ : Cond) ∈ uT := uni_mem (tt5 (List.mem_of_getElem? (i := 211) (by decide +kernel))) rfl
theorem tw_1236 : (Cond.instanceMethod ⟨"LineGuardModel", "line", "(I)I"⟩ : Cond) ∈ uT := uni_mem (tt5 (List.mem_of_getElem? (i := 212) (by decide +kernel))) rfl
theorem tw_1237 : (Cond.selects "LineGuardModel" ⟨"LineGuardModel", "line", "(I)I"⟩ ⟨"LineGuardModel", "line", "(I)I"⟩ : Cond) ∈ uT := uni_mem (tt5 (List.mem_of_getElem? (i := 213) (by decide +kernel))) rfl
theorem tw_1238 : (Cond.code ⟨"LineGuardModel", "line", "(I)I"⟩ prog_12_method_25_code 2 (some .int) : Cond) ∈ uT := uni_mem (tt5 (List.mem_of_getElem? (i := 214) rfl)) rfl
theorem tw_1239 : (Cond.methodLink "LineGuardLaw" 35 ⟨"LineGuardModel", "alter", "(II)I"⟩ : Cond) ∈ uT := uni_mem (tt5 (List.mem_of_getElem? (i := 215) (by decide +kernel))) rfl
theorem tw_1240 : (Cond.instanceMethod ⟨"LineGuardModel", "alter", "(II)I"⟩ : Cond) ∈ uT := uni_mem (tt5 (List.mem_of_getElem? (i := 216) (by decide +kernel))) rfl
theorem tw_1241 : (Cond.selects "LineGuardModel" ⟨"LineGuardModel", "alter", "(II)I"⟩ ⟨"LineGuardModel", "alter", "(II)I"⟩ : Cond) ∈ uT := uni_mem (tt5 (List.mem_of_getElem? (i := 217) (by decide +kernel))) rfl
theorem tw_1242 : (Cond.code ⟨"LineGuardModel", "alter", "(II)I"⟩ prog_12_method_26_code 3 (some .int) : Cond) ∈ uT := uni_mem (tt5 (List.mem_of_getElem? (i := 218) rfl)) rfl
theorem tw_1243 : (Cond.methodLink "LineGuardLaw" 39 ⟨"LineGuardModel", "cut", "(I)I"⟩ : Cond) ∈ uT := uni_mem (tt5 (List.mem_of_getElem? (i := 219) (by decide +kernel))) rfl
theorem tw_1244 : (Cond.instanceMethod ⟨"LineGuardModel", "cut", "(I)I"⟩ : Cond) ∈ uT := uni_mem (tt5 (List.mem_of_getElem? (i := 220) (by decide +kernel))) rfl
theorem tw_1245 : (Cond.selects "LineGuardModel" ⟨"LineGuardModel", "cut", "(I)I"⟩ ⟨"LineGuardModel", "cut", "(I)I"⟩ : Cond) ∈ uT := uni_mem (tt5 (List.mem_of_getElem? (i := 221) (by decide +kernel))) rfl
theorem tw_1246 : (Cond.code ⟨"LineGuardModel", "cut", "(I)I"⟩ prog_12_method_27_code 2 (some .int) : Cond) ∈ uT := uni_mem (tt5 (List.mem_of_getElem? (i := 222) rfl)) rfl
theorem tw_1247 : (Cond.methodLink "LineGuardLaw" 44 ⟨"LineGuardModel", "slip", "()I"⟩ : Cond) ∈ uT := uni_mem (tt5 (List.mem_of_getElem? (i := 223) (by decide +kernel))) rfl
theorem tw_1248 : (Cond.instanceMethod ⟨"LineGuardModel", "slip", "()I"⟩ : Cond) ∈ uT := uni_mem (tt5 (List.mem_of_getElem? (i := 224) (by decide +kernel))) rfl
theorem tw_1249 : (Cond.selects "LineGuardModel" ⟨"LineGuardModel", "slip", "()I"⟩ ⟨"LineGuardModel", "slip", "()I"⟩ : Cond) ∈ uT := uni_mem (tt5 (List.mem_of_getElem? (i := 225) (by decide +kernel))) rfl
theorem tw_1250 : (Cond.code ⟨"LineGuardModel", "slip", "()I"⟩ prog_12_method_29_code 3 (some .int) : Cond) ∈ uT := uni_mem (tt5 (List.mem_of_getElem? (i := 226) rfl)) rfl
theorem tw_1251 : (Cond.methodLink "LineGuardModel" 310 ⟨"LineGuardModel", "use", "()I"⟩ : Cond) ∈ uT := uni_mem (tt5 (List.mem_of_getElem? (i := 227) (by decide +kernel))) rfl
theorem tw_1253 : (Cond.instanceMethod ⟨"LineGuardModel", "use", "()I"⟩ : Cond) ∈ uT := uni_mem (tt5 (List.mem_of_getElem? (i := 229) (by decide +kernel))) rfl
theorem tw_1254 : (Cond.code ⟨"LineGuardModel", "use", "()I"⟩ prog_12_method_28_code 2 (some .int) : Cond) ∈ uT := uni_mem (tt5 (List.mem_of_getElem? (i := 230) rfl)) rfl
theorem tw_1255 : (Cond.methodLink "LineGuardLaw" 48 ⟨"LineGuardModel", "keys", "(II)I"⟩ : Cond) ∈ uT := uni_mem (tt5 (List.mem_of_getElem? (i := 231) (by decide +kernel))) rfl
theorem tw_1256 : (Cond.instanceMethod ⟨"LineGuardModel", "keys", "(II)I"⟩ : Cond) ∈ uT := uni_mem (tt5 (List.mem_of_getElem? (i := 232) (by decide +kernel))) rfl
theorem tw_1257 : (Cond.selects "LineGuardModel" ⟨"LineGuardModel", "keys", "(II)I"⟩ ⟨"LineGuardModel", "keys", "(II)I"⟩ : Cond) ∈ uT := uni_mem (tt5 (List.mem_of_getElem? (i := 233) (by decide +kernel))) rfl
theorem tw_1258 : (Cond.code ⟨"LineGuardModel", "keys", "(II)I"⟩ prog_12_method_32_code 7 (some .int) : Cond) ∈ uT := uni_mem (tt5 (List.mem_of_getElem? (i := 234) rfl)) rfl
theorem tw_1259 : (Cond.methodLink "LineGuardModel" 314 ⟨"LineGuardModel", "isSide", "(I)Z"⟩ : Cond) ∈ uT := uni_mem (tt5 (List.mem_of_getElem? (i := 235) (by decide +kernel))) rfl
theorem tw_1260 : (Cond.static ⟨"LineGuardModel", "isSide", "(I)Z"⟩ : Cond) ∈ uT := uni_mem (tt5 (List.mem_of_getElem? (i := 236) (by decide +kernel))) rfl
theorem tw_1261 : (Cond.code ⟨"LineGuardModel", "isSide", "(I)Z"⟩ prog_12_method_31_code 1 (some .boolean) : Cond) ∈ uT := uni_mem (tt5 (List.mem_of_getElem? (i := 237) rfl)) rfl
theorem tw_1262 : (Cond.methodLink "LineGuardModel" 318 ⟨"LineGuardModel", "none", "()V"⟩ : Cond) ∈ uT := uni_mem (tt5 (List.mem_of_getElem? (i := 238) (by decide +kernel))) rfl
theorem tw_1264 : (Cond.instanceMethod ⟨"LineGuardModel", "none", "()V"⟩ : Cond) ∈ uT := uni_mem (tt6 (List.mem_of_getElem? (i := 0) (by decide +kernel))) rfl
theorem tw_1265 : (Cond.code ⟨"LineGuardModel", "none", "()V"⟩ prog_12_method_30_code 1 none : Cond) ∈ uT := uni_mem (tt6 (List.mem_of_getElem? (i := 1) rfl)) rfl
theorem tw_1266 : (Cond.methodLink "LineGuardLaw" 52 ⟨"LineGuardModel", "name", "()I"⟩ : Cond) ∈ uT := uni_mem (tt6 (List.mem_of_getElem? (i := 2) (by decide +kernel))) rfl
theorem tw_1267 : (Cond.instanceMethod ⟨"LineGuardModel", "name", "()I"⟩ : Cond) ∈ uT := uni_mem (tt6 (List.mem_of_getElem? (i := 3) (by decide +kernel))) rfl
theorem tw_1268 : (Cond.selects "LineGuardModel" ⟨"LineGuardModel", "name", "()I"⟩ ⟨"LineGuardModel", "name", "()I"⟩ : Cond) ∈ uT := uni_mem (tt6 (List.mem_of_getElem? (i := 4) (by decide +kernel))) rfl
theorem tw_1269 : (Cond.code ⟨"LineGuardModel", "name", "()I"⟩ prog_12_method_33_code 3 (some .int) : Cond) ∈ uT := uni_mem (tt6 (List.mem_of_getElem? (i := 5) rfl)) rfl
theorem tw_1270 : (Cond.methodLink "LineGuardLaw" 56 ⟨"LineGuardModel", "counter", "(I)I"⟩ : Cond) ∈ uT := uni_mem (tt6 (List.mem_of_getElem? (i := 6) (by decide +kernel))) rfl
theorem tw_1271 : (Cond.instanceMethod ⟨"LineGuardModel", "counter", "(I)I"⟩ : Cond) ∈ uT := uni_mem (tt6 (List.mem_of_getElem? (i := 7) (by decide +kernel))) rfl
theorem tw_1272 : (Cond.selects "LineGuardModel" ⟨"LineGuardModel", "counter", "(I)I"⟩ ⟨"LineGuardModel", "counter", "(I)I"⟩ : Cond) ∈ uT := uni_mem (tt6 (List.mem_of_getElem? (i := 8) (by decide +kernel))) rfl
theorem tw_1273 : (Cond.code ⟨"LineGuardModel", "counter", "(I)I"⟩ prog_12_method_34_code 2 (some .int) : Cond) ∈ uT := uni_mem (tt6 (List.mem_of_getElem? (i := 9) rfl)) rfl
theorem tw_1274 : (Cond.constant "LineGuardModel" 324 (16777215) : Cond) ∈ uT := uni_mem (tt6 (List.mem_of_getElem? (i := 10) (by decide +kernel))) rfl
theorem tw_1275 : (Cond.methodLink "LineGuardLaw" 63 ⟨"LineGuardModel", "start", "(J)I"⟩ : Cond) ∈ uT := uni_mem (tt6 (List.mem_of_getElem? (i := 11) (by decide +kernel))) rfl
theorem tw_1276 : (Cond.instanceMethod ⟨"LineGuardModel", "start", "(J)I"⟩ : Cond) ∈ uT := uni_mem (tt6 (List.mem_of_getElem? (i := 12) (by decide +kernel))) rfl
theorem tw_1277 : (Cond.selects "LineGuardModel" ⟨"LineGuardModel", "start", "(J)I"⟩ ⟨"LineGuardModel", "start", "(J)I"⟩ : Cond) ∈ uT := uni_mem (tt6 (List.mem_of_getElem? (i := 13) (by decide +kernel))) rfl
theorem tw_1278 : (Cond.code ⟨"LineGuardModel", "start", "(J)I"⟩ prog_12_method_40_code 6 (some .int) : Cond) ∈ uT := uni_mem (tt6 (List.mem_of_getElem? (i := 14) rfl)) rfl
theorem tw_1279 : (Cond.methodLink "LineGuardModel" 350 ⟨"LineGuardModel", "make", "(IZ)V"⟩ : Cond) ∈ uT := uni_mem (tt6 (List.mem_of_getElem? (i := 15) (by decide +kernel))) rfl
theorem tw_1281 : (Cond.instanceMethod ⟨"LineGuardModel", "make", "(IZ)V"⟩ : Cond) ∈ uT := uni_mem (tt6 (List.mem_of_getElem? (i := 17) (by decide +kernel))) rfl
theorem tw_1282 : (Cond.code ⟨"LineGuardModel", "make", "(IZ)V"⟩ prog_12_method_38_code 6 none : Cond) ∈ uT := uni_mem (tt6 (List.mem_of_getElem? (i := 18) rfl)) rfl
theorem tw_1283 : (Cond.methodLink "LineGuardModel" 328 ⟨"LineGuardModel", "made", "(IIII)V"⟩ : Cond) ∈ uT := uni_mem (tt6 (List.mem_of_getElem? (i := 19) (by decide +kernel))) rfl
theorem tw_1285 : (Cond.instanceMethod ⟨"LineGuardModel", "made", "(IIII)V"⟩ : Cond) ∈ uT := uni_mem (tt6 (List.mem_of_getElem? (i := 21) (by decide +kernel))) rfl
theorem tw_1286 : (Cond.code ⟨"LineGuardModel", "made", "(IIII)V"⟩ prog_12_method_35_code 6 none : Cond) ∈ uT := uni_mem (tt6 (List.mem_of_getElem? (i := 22) rfl)) rfl
theorem tw_1287 : (Cond.methodLink "LineGuardModel" 97 ⟨"LineGuardModel", "des3", "([BI[BIZ)V"⟩ : Cond) ∈ uT := uni_mem (tt6 (List.mem_of_getElem? (i := 23) (by decide +kernel))) rfl
theorem tw_1289 : (Cond.instanceMethod ⟨"LineGuardModel", "des3", "([BI[BIZ)V"⟩ : Cond) ∈ uT := uni_mem (tt6 (List.mem_of_getElem? (i := 25) (by decide +kernel))) rfl
theorem tw_1290 : (Cond.code ⟨"LineGuardModel", "des3", "([BI[BIZ)V"⟩ prog_12_method_3_code 6 none : Cond) ∈ uT := uni_mem (tt6 (List.mem_of_getElem? (i := 26) rfl)) rfl
theorem tw_1291 : (Cond.methodLink "LineGuardModel" 44 ⟨"LineGuardModel", "des", "([BI[BIZ)V"⟩ : Cond) ∈ uT := uni_mem (tt6 (List.mem_of_getElem? (i := 27) (by decide +kernel))) rfl
theorem tw_1293 : (Cond.instanceMethod ⟨"LineGuardModel", "des", "([BI[BIZ)V"⟩ : Cond) ∈ uT := uni_mem (tt6 (List.mem_of_getElem? (i := 29) (by decide +kernel))) rfl
theorem tw_1294 : (Cond.code ⟨"LineGuardModel", "des", "([BI[BIZ)V"⟩ prog_12_method_2_code 13 none : Cond) ∈ uT := uni_mem (tt6 (List.mem_of_getElem? (i := 30) rfl)) rfl
theorem tw_1295 : (Cond.methodLink "LineGuardModel" 16 ⟨"LineGuardModel", "desKey", "([BI)V"⟩ : Cond) ∈ uT := uni_mem (tt6 (List.mem_of_getElem? (i := 31) (by decide +kernel))) rfl
theorem tw_1297 : (Cond.instanceMethod ⟨"LineGuardModel", "desKey", "([BI)V"⟩ : Cond) ∈ uT := uni_mem (tt6 (List.mem_of_getElem? (i := 33) (by decide +kernel))) rfl
theorem tw_1298 : (Cond.code ⟨"LineGuardModel", "desKey", "([BI)V"⟩ prog_12_method_1_code 9 none : Cond) ∈ uT := uni_mem (tt6 (List.mem_of_getElem? (i := 34) rfl)) rfl
theorem tw_1299 : (Cond.methodLink "LineGuardModel" 114 ⟨"LineGuardModel", "fresh", "()V"⟩ : Cond) ∈ uT := uni_mem (tt6 (List.mem_of_getElem? (i := 35) (by decide +kernel))) rfl
theorem tw_1301 : (Cond.instanceMethod ⟨"LineGuardModel", "fresh", "()V"⟩ : Cond) ∈ uT := uni_mem (tt6 (List.mem_of_getElem? (i := 37) (by decide +kernel))) rfl
theorem tw_1302 : (Cond.code ⟨"LineGuardModel", "fresh", "()V"⟩ prog_12_method_11_code 1 none : Cond) ∈ uT := uni_mem (tt6 (List.mem_of_getElem? (i := 38) rfl)) rfl
theorem tw_1303 : (Cond.methodLink "LineGuardModel" 121 ⟨"LineGuardModel", "addAll", "([BII)V"⟩ : Cond) ∈ uT := uni_mem (tt6 (List.mem_of_getElem? (i := 39) (by decide +kernel))) rfl
theorem tw_1305 : (Cond.instanceMethod ⟨"LineGuardModel", "addAll", "([BII)V"⟩ : Cond) ∈ uT := uni_mem (tt6 (List.mem_of_getElem? (i := 41) (by decide +kernel))) rfl
theorem tw_1306 : (Cond.code ⟨"LineGuardModel", "addAll", "([BII)V"⟩ prog_12_method_13_code 5 none : Cond) ∈ uT := uni_mem (tt6 (List.mem_of_getElem? (i := 42) rfl)) rfl
theorem tw_1307 : (Cond.methodLink "LineGuardModel" 87 ⟨"LineGuardModel", "add", "(I)V"⟩ : Cond) ∈ uT := uni_mem (tt6 (List.mem_of_getElem? (i := 43) (by decide +kernel))) rfl
theorem tw_1309 : (Cond.instanceMethod ⟨"LineGuardModel", "add", "(I)V"⟩ : Cond) ∈ uT := uni_mem (tt6 (List.mem_of_getElem? (i := 45) (by decide +kernel))) rfl
theorem tw_1310 : (Cond.code ⟨"LineGuardModel", "add", "(I)V"⟩ prog_12_method_12_code 2 none : Cond) ∈ uT := uni_mem (tt6 (List.mem_of_getElem? (i := 46) rfl)) rfl
theorem tw_1311 : (Cond.methodLink "LineGuardModel" 332 ⟨"LineGuardModel", "retail", "([BI[BI)V"⟩ : Cond) ∈ uT := uni_mem (tt6 (List.mem_of_getElem? (i := 47) (by decide +kernel))) rfl
theorem tw_1313 : (Cond.instanceMethod ⟨"LineGuardModel", "retail", "([BI[BI)V"⟩ : Cond) ∈ uT := uni_mem (tt6 (List.mem_of_getElem? (i := 49) (by decide +kernel))) rfl
theorem tw_1314 : (Cond.code ⟨"LineGuardModel", "retail", "([BI[BI)V"⟩ prog_12_method_16_code 7 none : Cond) ∈ uT := uni_mem (tt6 (List.mem_of_getElem? (i := 50) rfl)) rfl
theorem tw_1315 : (Cond.methodLink "LineGuardModel" 91 ⟨"LineGuardModel", "fillUp", "(I)V"⟩ : Cond) ∈ uT := uni_mem (tt6 (List.mem_of_getElem? (i := 51) (by decide +kernel))) rfl
theorem tw_1317 : (Cond.instanceMethod ⟨"LineGuardModel", "fillUp", "(I)V"⟩ : Cond) ∈ uT := uni_mem (tt6 (List.mem_of_getElem? (i := 53) (by decide +kernel))) rfl
theorem tw_1318 : (Cond.code ⟨"LineGuardModel", "fillUp", "(I)V"⟩ prog_12_method_14_code 2 none : Cond) ∈ uT := uni_mem (tt6 (List.mem_of_getElem? (i := 54) rfl)) rfl
theorem tw_1319 : (Cond.methodLink "LineGuardModel" 336 ⟨"LineGuardModel", "proofOf", "(IZ)V"⟩ : Cond) ∈ uT := uni_mem (tt6 (List.mem_of_getElem? (i := 55) (by decide +kernel))) rfl
theorem tw_1321 : (Cond.instanceMethod ⟨"LineGuardModel", "proofOf", "(IZ)V"⟩ : Cond) ∈ uT := uni_mem (tt6 (List.mem_of_getElem? (i := 57) (by decide +kernel))) rfl
theorem tw_1322 : (Cond.code ⟨"LineGuardModel", "proofOf", "(IZ)V"⟩ prog_12_method_39_code 4 none : Cond) ∈ uT := uni_mem (tt6 (List.mem_of_getElem? (i := 58) rfl)) rfl
theorem tw_1323 : (Cond.methodLink "LineGuardModel" 347 ⟨"LineGuardModel", "mac3", "([BI)V"⟩ : Cond) ∈ uT := uni_mem (tt6 (List.mem_of_getElem? (i := 59) (by decide +kernel))) rfl
theorem tw_1325 : (Cond.instanceMethod ⟨"LineGuardModel", "mac3", "([BI)V"⟩ : Cond) ∈ uT := uni_mem (tt6 (List.mem_of_getElem? (i := 61) (by decide +kernel))) rfl
theorem tw_1326 : (Cond.code ⟨"LineGuardModel", "mac3", "([BI)V"⟩ prog_12_method_15_code 5 none : Cond) ∈ uT := uni_mem (tt6 (List.mem_of_getElem? (i := 62) rfl)) rfl
theorem tw_1327 : (Cond.methodLink "LineGuardModel" 340 ⟨"LineGuardModel", "kdf", "([BIIIII[BI)V"⟩ : Cond) ∈ uT := uni_mem (tt6 (List.mem_of_getElem? (i := 63) (by decide +kernel))) rfl
theorem tw_1329 : (Cond.instanceMethod ⟨"LineGuardModel", "kdf", "([BIIIII[BI)V"⟩ : Cond) ∈ uT := uni_mem (tt6 (List.mem_of_getElem? (i := 65) (by decide +kernel))) rfl
theorem tw_1330 : (Cond.code ⟨"LineGuardModel", "kdf", "([BIIIII[BI)V"⟩ prog_12_method_19_code 11 none : Cond) ∈ uT := uni_mem (tt6 (List.mem_of_getElem? (i := 66) rfl)) rfl
theorem tw_1331 : (Cond.methodLink "LineGuardModel" 124 ⟨"LineGuardModel", "cmac", "([BII)V"⟩ : Cond) ∈ uT := uni_mem (tt6 (List.mem_of_getElem? (i := 67) (by decide +kernel))) rfl
theorem tw_1333 : (Cond.instanceMethod ⟨"LineGuardModel", "cmac", "([BII)V"⟩ : Cond) ∈ uT := uni_mem (tt6 (List.mem_of_getElem? (i := 69) (by decide +kernel))) rfl
theorem tw_1334 : (Cond.code ⟨"LineGuardModel", "cmac", "([BII)V"⟩ prog_12_method_18_code 7 none : Cond) ∈ uT := uni_mem (tt6 (List.mem_of_getElem? (i := 70) rfl)) rfl
theorem tw_1335 : (Cond.methodLink "LineGuardModel" 100 ⟨"LineGuardModel", "aesKey", "([BII)V"⟩ : Cond) ∈ uT := uni_mem (tt6 (List.mem_of_getElem? (i := 71) (by decide +kernel))) rfl
theorem tw_1337 : (Cond.instanceMethod ⟨"LineGuardModel", "aesKey", "([BII)V"⟩ : Cond) ∈ uT := uni_mem (tt6 (List.mem_of_getElem? (i := 73) (by decide +kernel))) rfl
theorem tw_1338 : (Cond.code ⟨"LineGuardModel", "aesKey", "([BII)V"⟩ prog_12_method_7_code 9 none : Cond) ∈ uT := uni_mem (tt6 (List.mem_of_getElem? (i := 74) rfl)) rfl
theorem tw_1339 : (Cond.methodLink "LineGuardModel" 106 ⟨"LineGuardModel", "aes", "([BIZ)V"⟩ : Cond) ∈ uT := uni_mem (tt6 (List.mem_of_getElem? (i := 75) (by decide +kernel))) rfl
theorem tw_1341 : (Cond.instanceMethod ⟨"LineGuardModel", "aes", "([BIZ)V"⟩ : Cond) ∈ uT := uni_mem (tt6 (List.mem_of_getElem? (i := 77) (by decide +kernel))) rfl
theorem tw_1342 : (Cond.code ⟨"LineGuardModel", "aes", "([BIZ)V"⟩ prog_12_method_9_code 6 none : Cond) ∈ uT := uni_mem (tt6 (List.mem_of_getElem? (i := 78) rfl)) rfl
theorem tw_1343 : (Cond.methodLink "LineGuardModel" 70 ⟨"LineGuardModel", "addKey", "([BII)V"⟩ : Cond) ∈ uT := uni_mem (tt6 (List.mem_of_getElem? (i := 79) (by decide +kernel))) rfl
theorem tw_1345 : (Cond.instanceMethod ⟨"LineGuardModel", "addKey", "([BII)V"⟩ : Cond) ∈ uT := uni_mem (tt6 (List.mem_of_getElem? (i := 81) (by decide +kernel))) rfl
theorem tw_1346 : (Cond.code ⟨"LineGuardModel", "addKey", "([BII)V"⟩ prog_12_method_8_code 5 none : Cond) ∈ uT := uni_mem (tt6 (List.mem_of_getElem? (i := 82) rfl)) rfl
theorem tw_1347 : (Cond.methodLink "LineGuardModel" 77 ⟨"LineGuardModel", "mixColumns", "([BIIIII)V"⟩ : Cond) ∈ uT := uni_mem (tt6 (List.mem_of_getElem? (i := 83) (by decide +kernel))) rfl
theorem tw_1349 : (Cond.instanceMethod ⟨"LineGuardModel", "mixColumns", "([BIIIII)V"⟩ : Cond) ∈ uT := uni_mem (tt6 (List.mem_of_getElem? (i := 85) (by decide +kernel))) rfl
theorem tw_1350 : (Cond.code ⟨"LineGuardModel", "mixColumns", "([BIIIII)V"⟩ prog_12_method_10_code 10 none : Cond) ∈ uT := uni_mem (tt6 (List.mem_of_getElem? (i := 86) rfl)) rfl
theorem tw_1351 : (Cond.methodLink "LineGuardModel" 110 ⟨"LineGuardModel", "shift", "([B)V"⟩ : Cond) ∈ uT := uni_mem (tt6 (List.mem_of_getElem? (i := 87) (by decide +kernel))) rfl
theorem tw_1352 : (Cond.static ⟨"LineGuardModel", "shift", "([B)V"⟩ : Cond) ∈ uT := uni_mem (tt6 (List.mem_of_getElem? (i := 88) (by decide +kernel))) rfl
theorem tw_1353 : (Cond.code ⟨"LineGuardModel", "shift", "([B)V"⟩ prog_12_method_17_code 3 none : Cond) ∈ uT := uni_mem (tt6 (List.mem_of_getElem? (i := 89) rfl)) rfl
theorem tw_1354 : (Cond.methodLink "LineGuardModel" 344 ⟨"LineGuardModel", "aboutHost", "(I)V"⟩ : Cond) ∈ uT := uni_mem (tt6 (List.mem_of_getElem? (i := 90) (by decide +kernel))) rfl
theorem tw_1356 : (Cond.instanceMethod ⟨"LineGuardModel", "aboutHost", "(I)V"⟩ : Cond) ∈ uT := uni_mem (tt6 (List.mem_of_getElem? (i := 92) (by decide +kernel))) rfl
theorem tw_1357 : (Cond.code ⟨"LineGuardModel", "aboutHost", "(I)V"⟩ prog_12_method_36_code 3 none : Cond) ∈ uT := uni_mem (tt6 (List.mem_of_getElem? (i := 93) rfl)) rfl
theorem tw_1358 : (Cond.methodLink "LineGuardLaw" 67 ⟨"LineGuardModel", "prove", "(I)I"⟩ : Cond) ∈ uT := uni_mem (tt6 (List.mem_of_getElem? (i := 94) (by decide +kernel))) rfl
theorem tw_1359 : (Cond.instanceMethod ⟨"LineGuardModel", "prove", "(I)I"⟩ : Cond) ∈ uT := uni_mem (tt6 (List.mem_of_getElem? (i := 95) (by decide +kernel))) rfl
theorem tw_1360 : (Cond.selects "LineGuardModel" ⟨"LineGuardModel", "prove", "(I)I"⟩ ⟨"LineGuardModel", "prove", "(I)I"⟩ : Cond) ∈ uT := uni_mem (tt6 (List.mem_of_getElem? (i := 96) (by decide +kernel))) rfl
theorem tw_1361 : (Cond.code ⟨"LineGuardModel", "prove", "(I)I"⟩ prog_12_method_45_code 3 (some .int) : Cond) ∈ uT := uni_mem (tt6 (List.mem_of_getElem? (i := 97) rfl)) rfl
theorem tw_1362 : (Cond.methodLink "LineGuardModel" 356 ⟨"LineGuardModel", "isLevel", "(II)Z"⟩ : Cond) ∈ uT := uni_mem (tt6 (List.mem_of_getElem? (i := 98) (by decide +kernel))) rfl
theorem tw_1363 : (Cond.static ⟨"LineGuardModel", "isLevel", "(II)Z"⟩ : Cond) ∈ uT := uni_mem (tt6 (List.mem_of_getElem? (i := 99) (by decide +kernel))) rfl
theorem tw_1364 : (Cond.code ⟨"LineGuardModel", "isLevel", "(II)Z"⟩ prog_12_method_41_code 2 (some .boolean) : Cond) ∈ uT := uni_mem (tt6 (List.mem_of_getElem? (i := 100) rfl)) rfl
theorem tw_1365 : (Cond.methodLink "LineGuardModel" 360 ⟨"LineGuardModel", "commandMac", "(I[BI[BIIZ)V"⟩ : Cond) ∈ uT := uni_mem (tt6 (List.mem_of_getElem? (i := 101) (by decide +kernel))) rfl
theorem tw_1367 : (Cond.instanceMethod ⟨"LineGuardModel", "commandMac", "(I[BI[BIIZ)V"⟩ : Cond) ∈ uT := uni_mem (tt6 (List.mem_of_getElem? (i := 103) (by decide +kernel))) rfl
theorem tw_1368 : (Cond.code ⟨"LineGuardModel", "commandMac", "(I[BI[BIIZ)V"⟩ prog_12_method_43_code 11 none : Cond) ∈ uT := uni_mem (tt6 (List.mem_of_getElem? (i := 104) rfl)) rfl
theorem tw_1369 : (Cond.methodLink "LineGuardModel" 353 ⟨"LineGuardModel", "addLength", "(I)V"⟩ : Cond) ∈ uT := uni_mem (tt6 (List.mem_of_getElem? (i := 105) (by decide +kernel))) rfl
theorem tw_1371 : (Cond.instanceMethod ⟨"LineGuardModel", "addLength", "(I)V"⟩ : Cond) ∈ uT := uni_mem (tt6 (List.mem_of_getElem? (i := 107) (by decide +kernel))) rfl
theorem tw_1372 : (Cond.code ⟨"LineGuardModel", "addLength", "(I)V"⟩ prog_12_method_42_code 2 none : Cond) ∈ uT := uni_mem (tt6 (List.mem_of_getElem? (i := 108) rfl)) rfl
theorem tw_1373 : (Cond.methodLink "LineGuardModel" 364 ⟨"LineGuardModel", "opens", "(II)V"⟩ : Cond) ∈ uT := uni_mem (tt6 (List.mem_of_getElem? (i := 109) (by decide +kernel))) rfl
theorem tw_1375 : (Cond.instanceMethod ⟨"LineGuardModel", "opens", "(II)V"⟩ : Cond) ∈ uT := uni_mem (tt6 (List.mem_of_getElem? (i := 111) (by decide +kernel))) rfl
theorem tw_1376 : (Cond.code ⟨"LineGuardModel", "opens", "(II)V"⟩ prog_12_method_44_code 4 none : Cond) ∈ uT := uni_mem (tt6 (List.mem_of_getElem? (i := 112) rfl)) rfl
theorem tw_1377 : (Cond.methodLink "LineGuardLaw" 71 ⟨"LineGuardModel", "send", "()I"⟩ : Cond) ∈ uT := uni_mem (tt6 (List.mem_of_getElem? (i := 113) (by decide +kernel))) rfl
theorem tw_1378 : (Cond.instanceMethod ⟨"LineGuardModel", "send", "()I"⟩ : Cond) ∈ uT := uni_mem (tt6 (List.mem_of_getElem? (i := 114) (by decide +kernel))) rfl
theorem tw_1379 : (Cond.selects "LineGuardModel" ⟨"LineGuardModel", "send", "()I"⟩ ⟨"LineGuardModel", "send", "()I"⟩ : Cond) ∈ uT := uni_mem (tt6 (List.mem_of_getElem? (i := 115) (by decide +kernel))) rfl
theorem tw_1380 : (Cond.code ⟨"LineGuardModel", "send", "()I"⟩ prog_12_method_52_code 5 (some .int) : Cond) ∈ uT := uni_mem (tt6 (List.mem_of_getElem? (i := 116) rfl)) rfl
theorem tw_1381 : (Cond.methodLink "LineGuardModel" 377 ⟨"LineGuardModel", "keepCommand", "(I[BI)V"⟩ : Cond) ∈ uT := uni_mem (tt6 (List.mem_of_getElem? (i := 117) (by decide +kernel))) rfl
theorem tw_1383 : (Cond.instanceMethod ⟨"LineGuardModel", "keepCommand", "(I[BI)V"⟩ : Cond) ∈ uT := uni_mem (tt6 (List.mem_of_getElem? (i := 119) (by decide +kernel))) rfl
theorem tw_1384 : (Cond.code ⟨"LineGuardModel", "keepCommand", "(I[BI)V"⟩ prog_12_method_51_code 5 none : Cond) ∈ uT := uni_mem (tt6 (List.mem_of_getElem? (i := 120) rfl)) rfl
theorem tw_1385 : (Cond.methodLink "LineGuardModel" 381 ⟨"LineGuardModel", "hide", "(IIZ)I"⟩ : Cond) ∈ uT := uni_mem (tt6 (List.mem_of_getElem? (i := 121) (by decide +kernel))) rfl
theorem tw_1387 : (Cond.instanceMethod ⟨"LineGuardModel", "hide", "(IIZ)I"⟩ : Cond) ∈ uT := uni_mem (tt6 (List.mem_of_getElem? (i := 123) (by decide +kernel))) rfl
theorem tw_1388 : (Cond.code ⟨"LineGuardModel", "hide", "(IIZ)I"⟩ prog_12_method_49_code 8 (some .int) : Cond) ∈ uT := uni_mem (tt6 (List.mem_of_getElem? (i := 124) rfl)) rfl
theorem tw_1389 : (Cond.methodLink "LineGuardModel" 368 ⟨"LineGuardModel", "blockOf", "(I)I"⟩ : Cond) ∈ uT := uni_mem (tt6 (List.mem_of_getElem? (i := 125) (by decide +kernel))) rfl
theorem tw_1391 : (Cond.instanceMethod ⟨"LineGuardModel", "blockOf", "(I)I"⟩ : Cond) ∈ uT := uni_mem (tt6 (List.mem_of_getElem? (i := 127) (by decide +kernel))) rfl
theorem tw_1392 : (Cond.code ⟨"LineGuardModel", "blockOf", "(I)I"⟩ prog_12_method_46_code 2 (some .int) : Cond) ∈ uT := uni_mem (tt6 (List.mem_of_getElem? (i := 128) rfl)) rfl
theorem tw_1393 : (Cond.methodLink "LineGuardModel" 371 ⟨"LineGuardModel", "first", "(IZ)V"⟩ : Cond) ∈ uT := uni_mem (tt6 (List.mem_of_getElem? (i := 129) (by decide +kernel))) rfl
theorem tw_1395 : (Cond.instanceMethod ⟨"LineGuardModel", "first", "(IZ)V"⟩ : Cond) ∈ uT := uni_mem (tt6 (List.mem_of_getElem? (i := 131) (by decide +kernel))) rfl
theorem tw_1396 : (Cond.code ⟨"LineGuardModel", "first", "(IZ)V"⟩ prog_12_method_47_code 5 none : Cond) ∈ uT := uni_mem (tt6 (List.mem_of_getElem? (i := 132) rfl)) rfl
theorem tw_1397 : (Cond.methodLink "LineGuardModel" 373 ⟨"LineGuardModel", "one", "(I[BIZ)V"⟩ : Cond) ∈ uT := uni_mem (tt6 (List.mem_of_getElem? (i := 133) (by decide +kernel))) rfl
theorem tw_1399 : (Cond.instanceMethod ⟨"LineGuardModel", "one", "(I[BIZ)V"⟩ : Cond) ∈ uT := uni_mem (tt6 (List.mem_of_getElem? (i := 135) (by decide +kernel))) rfl
theorem tw_1400 : (Cond.code ⟨"LineGuardModel", "one", "(I[BIZ)V"⟩ prog_12_method_48_code 5 none : Cond) ∈ uT := uni_mem (tt6 (List.mem_of_getElem? (i := 136) rfl)) rfl
theorem tw_1401 : (Cond.methodLink "LineGuardLaw" 75 ⟨"LineGuardModel", "take", "()I"⟩ : Cond) ∈ uT := uni_mem (tt6 (List.mem_of_getElem? (i := 137) (by decide +kernel))) rfl
theorem tw_1402 : (Cond.instanceMethod ⟨"LineGuardModel", "take", "()I"⟩ : Cond) ∈ uT := uni_mem (tt6 (List.mem_of_getElem? (i := 138) (by decide +kernel))) rfl
theorem tw_1403 : (Cond.selects "LineGuardModel" ⟨"LineGuardModel", "take", "()I"⟩ ⟨"LineGuardModel", "take", "()I"⟩ : Cond) ∈ uT := uni_mem (tt6 (List.mem_of_getElem? (i := 139) (by decide +kernel))) rfl
theorem tw_1404 : (Cond.code ⟨"LineGuardModel", "take", "()I"⟩ prog_12_method_56_code 4 (some .int) : Cond) ∈ uT := uni_mem (tt6 (List.mem_of_getElem? (i := 140) rfl)) rfl
theorem tw_1405 : (Cond.methodLink "LineGuardModel" 391 ⟨"LineGuardModel", "proven", "(I)Z"⟩ : Cond) ∈ uT := uni_mem (tt6 (List.mem_of_getElem? (i := 141) (by decide +kernel))) rfl
theorem tw_1407 : (Cond.instanceMethod ⟨"LineGuardModel", "proven", "(I)Z"⟩ : Cond) ∈ uT := uni_mem (tt6 (List.mem_of_getElem? (i := 143) (by decide +kernel))) rfl
theorem tw_1408 : (Cond.code ⟨"LineGuardModel", "proven", "(I)Z"⟩ prog_12_method_54_code 5 (some .boolean) : Cond) ∈ uT := uni_mem (tt6 (List.mem_of_getElem? (i := 144) rfl)) rfl
theorem tw_1409 : (Cond.methodLink "LineGuardModel" 385 ⟨"LineGuardModel", "isCode", "(I)Z"⟩ : Cond) ∈ uT := uni_mem (tt6 (List.mem_of_getElem? (i := 145) (by decide +kernel))) rfl
theorem tw_1411 : (Cond.instanceMethod ⟨"LineGuardModel", "isCode", "(I)Z"⟩ : Cond) ∈ uT := uni_mem (tt6 (List.mem_of_getElem? (i := 147) (by decide +kernel))) rfl
theorem tw_1412 : (Cond.code ⟨"LineGuardModel", "isCode", "(I)Z"⟩ prog_12_method_53_code 4 (some .boolean) : Cond) ∈ uT := uni_mem (tt6 (List.mem_of_getElem? (i := 148) rfl)) rfl
theorem tw_1413 : (Cond.constant "LineGuardModel" 394 (36864) : Cond) ∈ uT := uni_mem (tt6 (List.mem_of_getElem? (i := 149) (by decide +kernel))) rfl
theorem tw_1414 : (Cond.methodLink "LineGuardModel" 395 ⟨"LineGuardModel", "opened", "(I)I"⟩ : Cond) ∈ uT := uni_mem (tt6 (List.mem_of_getElem? (i := 150) (by decide +kernel))) rfl
theorem tw_1416 : (Cond.instanceMethod ⟨"LineGuardModel", "opened", "(I)I"⟩ : Cond) ∈ uT := uni_mem (tt6 (List.mem_of_getElem? (i := 152) (by decide +kernel))) rfl
theorem tw_1417 : (Cond.code ⟨"LineGuardModel", "opened", "(I)I"⟩ prog_12_method_55_code 5 (some .int) : Cond) ∈ uT := uni_mem (tt6 (List.mem_of_getElem? (i := 153) rfl)) rfl
theorem tw_1418 : (Cond.methodLink "LineGuardModel" 388 ⟨"LineGuardModel", "plain", "(IIZ)I"⟩ : Cond) ∈ uT := uni_mem (tt6 (List.mem_of_getElem? (i := 154) (by decide +kernel))) rfl
theorem tw_1420 : (Cond.instanceMethod ⟨"LineGuardModel", "plain", "(IIZ)I"⟩ : Cond) ∈ uT := uni_mem (tt6 (List.mem_of_getElem? (i := 156) (by decide +kernel))) rfl
theorem tw_1421 : (Cond.code ⟨"LineGuardModel", "plain", "(IIZ)I"⟩ prog_12_method_50_code 7 (some .int) : Cond) ∈ uT := uni_mem (tt6 (List.mem_of_getElem? (i := 157) rfl)) rfl
theorem tw_1422 : (Cond.methodLink "LineGuardLaw" 79 ⟨"LineGuardModel", "answer", "(I)I"⟩ : Cond) ∈ uT := uni_mem (tt6 (List.mem_of_getElem? (i := 158) (by decide +kernel))) rfl
theorem tw_1423 : (Cond.instanceMethod ⟨"LineGuardModel", "answer", "(I)I"⟩ : Cond) ∈ uT := uni_mem (tt6 (List.mem_of_getElem? (i := 159) (by decide +kernel))) rfl
theorem tw_1424 : (Cond.selects "LineGuardModel" ⟨"LineGuardModel", "answer", "(I)I"⟩ ⟨"LineGuardModel", "answer", "(I)I"⟩ : Cond) ∈ uT := uni_mem (tt6 (List.mem_of_getElem? (i := 160) (by decide +kernel))) rfl
theorem tw_1425 : (Cond.code ⟨"LineGuardModel", "answer", "(I)I"⟩ prog_12_method_59_code 4 (some .int) : Cond) ∈ uT := uni_mem (tt6 (List.mem_of_getElem? (i := 161) rfl)) rfl
theorem tw_1426 : (Cond.methodLink "LineGuardModel" 398 ⟨"LineGuardModel", "answers", "(I)Z"⟩ : Cond) ∈ uT := uni_mem (tt6 (List.mem_of_getElem? (i := 162) (by decide +kernel))) rfl
theorem tw_1428 : (Cond.instanceMethod ⟨"LineGuardModel", "answers", "(I)Z"⟩ : Cond) ∈ uT := uni_mem (tt6 (List.mem_of_getElem? (i := 164) (by decide +kernel))) rfl
theorem tw_1429 : (Cond.code ⟨"LineGuardModel", "answers", "(I)Z"⟩ prog_12_method_58_code 2 (some .boolean) : Cond) ∈ uT := uni_mem (tt6 (List.mem_of_getElem? (i := 165) rfl)) rfl
theorem tw_1430 : (Cond.constant "LineGuardModel" 401 (65535) : Cond) ∈ uT := uni_mem (tt6 (List.mem_of_getElem? (i := 166) (by decide +kernel))) rfl
theorem tw_1431 : (Cond.methodLink "LineGuardModel" 402 ⟨"LineGuardModel", "answerMac", "(I[BII)V"⟩ : Cond) ∈ uT := uni_mem (tt6 (List.mem_of_getElem? (i := 167) (by decide +kernel))) rfl
theorem tw_1433 : (Cond.instanceMethod ⟨"LineGuardModel", "answerMac", "(I[BII)V"⟩ : Cond) ∈ uT := uni_mem (tt6 (List.mem_of_getElem? (i := 169) (by decide +kernel))) rfl
theorem tw_1434 : (Cond.code ⟨"LineGuardModel", "answerMac", "(I[BII)V"⟩ prog_12_method_57_code 8 none : Cond) ∈ uT := uni_mem (tt6 (List.mem_of_getElem? (i := 170) rfl)) rfl
theorem tw_1435 : (Cond.methodLink "LineGuardLaw" 83 ⟨"LineGuardModel", "accept", "(I)I"⟩ : Cond) ∈ uT := uni_mem (tt6 (List.mem_of_getElem? (i := 171) (by decide +kernel))) rfl
theorem tw_1436 : (Cond.instanceMethod ⟨"LineGuardModel", "accept", "(I)I"⟩ : Cond) ∈ uT := uni_mem (tt6 (List.mem_of_getElem? (i := 172) (by decide +kernel))) rfl
theorem tw_1437 : (Cond.selects "LineGuardModel" ⟨"LineGuardModel", "accept", "(I)I"⟩ ⟨"LineGuardModel", "accept", "(I)I"⟩ : Cond) ∈ uT := uni_mem (tt6 (List.mem_of_getElem? (i := 173) (by decide +kernel))) rfl
theorem tw_1438 : (Cond.code ⟨"LineGuardModel", "accept", "(I)I"⟩ prog_12_method_60_code 6 (some .int) : Cond) ∈ uT := uni_mem (tt6 (List.mem_of_getElem? (i := 174) rfl)) rfl
theorem tw_1439 : (Cond.methodLink "LineGuardLaw" 88 ⟨"LineGuardModel", "seal", "(IZ)I"⟩ : Cond) ∈ uT := uni_mem (tt6 (List.mem_of_getElem? (i := 175) (by decide +kernel))) rfl
theorem tw_1440 : (Cond.instanceMethod ⟨"LineGuardModel", "seal", "(IZ)I"⟩ : Cond) ∈ uT := uni_mem (tt6 (List.mem_of_getElem? (i := 176) (by decide +kernel))) rfl
theorem tw_1441 : (Cond.selects "LineGuardModel" ⟨"LineGuardModel", "seal", "(IZ)I"⟩ ⟨"LineGuardModel", "seal", "(IZ)I"⟩ : Cond) ∈ uT := uni_mem (tt6 (List.mem_of_getElem? (i := 177) (by decide +kernel))) rfl
theorem tw_1442 : (Cond.code ⟨"LineGuardModel", "seal", "(IZ)I"⟩ prog_12_method_61_code 8 (some .int) : Cond) ∈ uT := uni_mem (tt6 (List.mem_of_getElem? (i := 178) rfl)) rfl
theorem tw_1443 : (Cond.methodLink "LineGuardLaw" 93 ⟨"LineGuardModel", "secret", "(III)I"⟩ : Cond) ∈ uT := uni_mem (tt6 (List.mem_of_getElem? (i := 179) (by decide +kernel))) rfl
theorem tw_1444 : (Cond.instanceMethod ⟨"LineGuardModel", "secret", "(III)I"⟩ : Cond) ∈ uT := uni_mem (tt6 (List.mem_of_getElem? (i := 180) (by decide +kernel))) rfl
theorem tw_1445 : (Cond.selects "LineGuardModel" ⟨"LineGuardModel", "secret", "(III)I"⟩ ⟨"LineGuardModel", "secret", "(III)I"⟩ : Cond) ∈ uT := uni_mem (tt6 (List.mem_of_getElem? (i := 181) (by decide +kernel))) rfl
theorem tw_1446 : (Cond.code ⟨"LineGuardModel", "secret", "(III)I"⟩ prog_12_method_62_code 5 (some .int) : Cond) ∈ uT := uni_mem (tt6 (List.mem_of_getElem? (i := 182) rfl)) rfl
theorem tw_1447 : (Cond.methodLink "LineGuardModel" 406 ⟨"LineGuardModel", "wide", "(I)I"⟩ : Cond) ∈ uT := uni_mem (tt6 (List.mem_of_getElem? (i := 183) (by decide +kernel))) rfl
theorem tw_1449 : (Cond.instanceMethod ⟨"LineGuardModel", "wide", "(I)I"⟩ : Cond) ∈ uT := uni_mem (tt6 (List.mem_of_getElem? (i := 185) (by decide +kernel))) rfl
theorem tw_1450 : (Cond.code ⟨"LineGuardModel", "wide", "(I)I"⟩ prog_12_method_37_code 2 (some .int) : Cond) ∈ uT := uni_mem (tt6 (List.mem_of_getElem? (i := 186) rfl)) rfl
theorem tw_1451 : (Cond.methodLink "LineGuardLaw" 97 ⟨"LineGuardModel", "about", "(II)I"⟩ : Cond) ∈ uT := uni_mem (tt6 (List.mem_of_getElem? (i := 187) (by decide +kernel))) rfl
theorem tw_1452 : (Cond.instanceMethod ⟨"LineGuardModel", "about", "(II)I"⟩ : Cond) ∈ uT := uni_mem (tt6 (List.mem_of_getElem? (i := 188) (by decide +kernel))) rfl
theorem tw_1453 : (Cond.selects "LineGuardModel" ⟨"LineGuardModel", "about", "(II)I"⟩ ⟨"LineGuardModel", "about", "(II)I"⟩ : Cond) ∈ uT := uni_mem (tt6 (List.mem_of_getElem? (i := 189) (by decide +kernel))) rfl
theorem tw_1454 : (Cond.code ⟨"LineGuardModel", "about", "(II)I"⟩ prog_12_method_63_code 3 (some .int) : Cond) ∈ uT := uni_mem (tt6 (List.mem_of_getElem? (i := 190) rfl)) rfl
theorem tw_1455 : (Cond.constantLong "LineGuardLaw" 57 (4294967295) : Cond) ∈ uT := uni_mem (tt6 (List.mem_of_getElem? (i := 191) (by decide +kernel))) rfl
theorem tw_1456 : (Cond.sameMethod "LineGuard$Rule" "LineGuard$Rule" "isBlocks" "(I)Z" : Cond) ∈ uT := uni_mem (tt6 (List.mem_of_getElem? (i := 192) (by decide +kernel))) rfl
theorem tw_1457 : (Cond.selects "LineGuard$NewerRule" ⟨"LineGuard$Rule", "isBlocks", "(I)Z"⟩ ⟨"LineGuard$Rule", "isBlocks", "(I)Z"⟩ : Cond) ∈ uT := uni_mem (tt6 (List.mem_of_getElem? (i := 193) (by decide +kernel))) rfl
theorem tw_1458 : (Cond.selects "LineGuard$OlderRule" ⟨"LineGuard$Rule", "isBlocks", "(I)Z"⟩ ⟨"LineGuard$Rule", "isBlocks", "(I)Z"⟩ : Cond) ∈ uT := uni_mem (tt6 (List.mem_of_getElem? (i := 194) (by decide +kernel))) rfl
