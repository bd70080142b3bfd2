theorem fk_RX0_7 : FK RX0 7 0 0 := ⟨_, _, _, rfl, by decide, gw_tb 363 (by decide +kernel) rfl⟩
theorem fk_RX0_13 : FK RX0 13 4 0 := ⟨_, _, _, rfl, by decide, gw_tb 258 (by decide +kernel) rfl⟩
theorem fk_RX0_19 : FK RX0 19 6 0 := ⟨_, _, _, rfl, by decide, gw_tb 36 (by decide +kernel) rfl⟩
theorem fk_RX0_25 : FK RX0 25 0 1 := ⟨_, _, _, rfl, by decide, gw_tb 364 (by decide +kernel) rfl⟩
theorem fk_RX0_29 : FK RX0 29 0 2 := ⟨_, _, _, rfl, by decide, gw_tb 365 (by decide +kernel) rfl⟩
theorem fk_RX1_9 : FK RX1 9 1 1 := ⟨_, _, _, rfl, by decide, gw_tb 289 (by decide +kernel) rfl⟩
theorem fk_RX1_15 : FK RX1 15 1 2 := ⟨_, _, _, rfl, by decide, gw_tb 291 (by decide +kernel) rfl⟩
theorem fk_RX1_18 : FK RX1 18 1 3 := ⟨_, _, _, rfl, by decide, gw_tb 296 (by decide +kernel) rfl⟩
theorem fk_RX1_22 : FK RX1 22 6 7 := ⟨_, _, _, rfl, by decide, gw_tb 66 (by decide +kernel) rfl⟩
theorem fk_RX1_28 : FK RX1 28 1 0 := ⟨_, _, _, rfl, by decide, gw_tb 284 (by decide +kernel) rfl⟩
theorem fk_RX1_31 : FK RX1 31 6 8 := ⟨_, _, _, rfl, by decide, gw_tb 71 (by decide +kernel) rfl⟩
theorem fk_RX1_32 : FK RX1 32 1 4 := ⟨_, _, _, rfl, by decide, gw_tb 301 (by decide +kernel) rfl⟩
theorem fk_RX1_35 : FK RX1 35 6 5 := ⟨_, _, _, rfl, by decide, gw_tb 55 (by decide +kernel) rfl⟩
theorem fk_RX1_37 : FK RX1 37 6 6 := ⟨_, _, _, rfl, by decide, gw_tb 63 (by decide +kernel) rfl⟩
theorem fk_RX10_9 : FK RX10 9 9 2 := ⟨_, _, _, rfl, by decide, gw_tb 423 (by decide +kernel) rfl⟩
theorem fk_RX10_15 : FK RX10 15 9 3 := ⟨_, _, _, rfl, by decide, gw_tb 424 (by decide +kernel) rfl⟩
theorem fk_RX10_18 : FK RX10 18 9 4 := ⟨_, _, _, rfl, by decide, gw_tb 425 (by decide +kernel) rfl⟩
theorem fk_RX10_21 : FK RX10 21 9 5 := ⟨_, _, _, rfl, by decide, gw_tb 426 (by decide +kernel) rfl⟩
theorem fk_RX10_24 : FK RX10 24 9 6 := ⟨_, _, _, rfl, by decide, gw_tb 427 (by decide +kernel) rfl⟩
theorem fk_RX10_27 : FK RX10 27 9 0 := ⟨_, _, _, rfl, by decide, gw_tb 420 (by decide +kernel) rfl⟩
theorem fk_RX10_31 : FK RX10 31 9 1 := ⟨_, _, _, rfl, by decide, gw_tb 421 (by decide +kernel) rfl⟩
theorem fk_RX10_35 : FK RX10 35 4 0 := ⟨_, _, _, rfl, by decide, gw_tb 261 (by decide +kernel) rfl⟩
theorem fk_RX10_41 : FK RX10 41 6 5 := ⟨_, _, _, rfl, by decide, gw_tb 59 (by decide +kernel) rfl⟩
theorem fk_RX10_81 : FK RX10 81 6 7 := ⟨_, _, _, rfl, by decide, gw_tb 68 (by decide +kernel) rfl⟩
theorem fk_RX10_92 : FK RX10 92 6 8 := ⟨_, _, _, rfl, by decide, gw_tb 72 (by decide +kernel) rfl⟩
theorem fk_RX10_103 : FK RX10 103 6 6 := ⟨_, _, _, rfl, by decide, gw_tb 64 (by decide +kernel) rfl⟩
theorem fk_RX11_9 : FK RX11 9 10 0 := ⟨_, _, _, rfl, by decide, gw_tb 447 (by decide +kernel) rfl⟩
theorem fk_RX11_16 : FK RX11 16 10 2 := ⟨_, _, _, rfl, by decide, gw_tb 449 (by decide +kernel) rfl⟩
theorem fk_RX11_28 : FK RX11 28 10 4 := ⟨_, _, _, rfl, by decide, gw_tb 451 (by decide +kernel) rfl⟩
theorem fk_RX11_37 : FK RX11 37 10 5 := ⟨_, _, _, rfl, by decide, gw_tb 452 (by decide +kernel) rfl⟩
theorem fk_RX11_44 : FK RX11 44 10 6 := ⟨_, _, _, rfl, by decide, gw_tb 453 (by decide +kernel) rfl⟩
theorem fk_RX11_48 : FK RX11 48 10 7 := ⟨_, _, _, rfl, by decide, gw_tb 454 (by decide +kernel) rfl⟩
theorem fk_RX11_55 : FK RX11 55 10 8 := ⟨_, _, _, rfl, by decide, gw_tb 455 (by decide +kernel) rfl⟩
theorem fk_RX11_64 : FK RX11 64 10 9 := ⟨_, _, _, rfl, by decide, gw_tb 456 (by decide +kernel) rfl⟩
theorem fk_RX11_78 : FK RX11 78 10 11 := ⟨_, _, _, rfl, by decide, gw_tb 458 (by decide +kernel) rfl⟩
theorem fk_RX11_85 : FK RX11 85 10 12 := ⟨_, _, _, rfl, by decide, gw_tb 459 (by decide +kernel) rfl⟩
theorem fk_RX11_92 : FK RX11 92 10 1 := ⟨_, _, _, rfl, by decide, gw_tb 448 (by decide +kernel) rfl⟩
theorem fk_RX11_111 : FK RX11 111 9 1 := ⟨_, _, _, rfl, by decide, gw_tb 422 (by decide +kernel) rfl⟩
theorem fk_RX11_114 : FK RX11 114 1 5 := ⟨_, _, _, rfl, by decide, gw_tb 305 (by decide +kernel) rfl⟩
theorem fk_RX11_118 : FK RX11 118 3 5 := ⟨_, _, _, rfl, by decide, gw_tb 219 (by decide +kernel) rfl⟩
theorem fk_RX11_125 : FK RX11 125 1 0 := ⟨_, _, _, rfl, by decide, gw_tb 286 (by decide +kernel) rfl⟩
theorem fk_RX11_133 : FK RX11 133 1 1 := ⟨_, _, _, rfl, by decide, gw_tb 290 (by decide +kernel) rfl⟩
theorem fk_RX11_137 : FK RX11 137 1 2 := ⟨_, _, _, rfl, by decide, gw_tb 294 (by decide +kernel) rfl⟩
theorem fk_RX11_140 : FK RX11 140 1 3 := ⟨_, _, _, rfl, by decide, gw_tb 298 (by decide +kernel) rfl⟩
theorem fk_RX11_143 : FK RX11 143 1 4 := ⟨_, _, _, rfl, by decide, gw_tb 303 (by decide +kernel) rfl⟩
theorem fk_RX11_153 : FK RX11 153 6 5 := ⟨_, _, _, rfl, by decide, gw_tb 60 (by decide +kernel) rfl⟩
theorem fk_RX11_162 : FK RX11 162 2 1 := ⟨_, _, _, rfl, by decide, gw_tb 328 (by decide +kernel) rfl⟩
theorem fk_RX11_194 : FK RX11 194 8 2 := ⟨_, _, _, rfl, by decide, gw_tb 390 (by decide +kernel) rfl⟩
theorem fk_RX11_197 : FK RX11 197 8 3 := ⟨_, _, _, rfl, by decide, gw_tb 392 (by decide +kernel) rfl⟩
theorem fk_RX11_204 : FK RX11 204 6 1 := ⟨_, _, _, rfl, by decide, gw_tb 44 (by decide +kernel) rfl⟩
theorem fk_RX11_206 : FK RX11 206 6 0 := ⟨_, _, _, rfl, by decide, gw_tb 40 (by decide +kernel) rfl⟩
theorem fk_RX11_221 : FK RX11 221 5 2 := ⟨_, _, _, rfl, by decide, gw_tb 346 (by decide +kernel) rfl⟩
theorem fk_RX11_244 : FK RX11 244 8 4 := ⟨_, _, _, rfl, by decide, gw_tb 394 (by decide +kernel) rfl⟩
theorem fk_RX11_247 : FK RX11 247 8 5 := ⟨_, _, _, rfl, by decide, gw_tb 396 (by decide +kernel) rfl⟩
theorem fk_RX11_250 : FK RX11 250 8 6 := ⟨_, _, _, rfl, by decide, gw_tb 398 (by decide +kernel) rfl⟩
theorem fk_RX11_287 : FK RX11 287 6 9 := ⟨_, _, _, rfl, by decide, gw_tb 77 (by decide +kernel) rfl⟩
theorem fk_RX11_290 : FK RX11 290 6 10 := ⟨_, _, _, rfl, by decide, gw_tb 81 (by decide +kernel) rfl⟩
theorem fk_RX11_293 : FK RX11 293 6 11 := ⟨_, _, _, rfl, by decide, gw_tb 84 (by decide +kernel) rfl⟩
theorem fk_RX12_13 : FK RX12 13 11 1 := ⟨_, _, _, rfl, by decide, gw_tb 1042 (by decide +kernel) rfl⟩
theorem fk_RX12_17 : FK RX12 17 11 3 := ⟨_, _, _, rfl, by decide, gw_tb 1044 (by decide +kernel) rfl⟩
theorem fk_RX12_20 : FK RX12 20 11 5 := ⟨_, _, _, rfl, by decide, gw_tb 1046 (by decide +kernel) rfl⟩
theorem fk_RX12_24 : FK RX12 24 11 6 := ⟨_, _, _, rfl, by decide, gw_tb 1047 (by decide +kernel) rfl⟩
theorem fk_RX12_27 : FK RX12 27 11 7 := ⟨_, _, _, rfl, by decide, gw_tb 1048 (by decide +kernel) rfl⟩
theorem fk_RX12_30 : FK RX12 30 11 8 := ⟨_, _, _, rfl, by decide, gw_tb 1049 (by decide +kernel) rfl⟩
theorem fk_RX12_34 : FK RX12 34 11 9 := ⟨_, _, _, rfl, by decide, gw_tb 1050 (by decide +kernel) rfl⟩
theorem fk_RX12_37 : FK RX12 37 11 17 := ⟨_, _, _, rfl, by decide, gw_tb 1058 (by decide +kernel) rfl⟩
theorem fk_RX12_40 : FK RX12 40 11 21 := ⟨_, _, _, rfl, by decide, gw_tb 1062 (by decide +kernel) rfl⟩
theorem fk_RX12_43 : FK RX12 43 11 22 := ⟨_, _, _, rfl, by decide, gw_tb 1063 (by decide +kernel) rfl⟩
theorem fk_RX12_46 : FK RX12 46 11 23 := ⟨_, _, _, rfl, by decide, gw_tb 1064 (by decide +kernel) rfl⟩
theorem fk_RX12_49 : FK RX12 49 11 24 := ⟨_, _, _, rfl, by decide, gw_tb 1065 (by decide +kernel) rfl⟩
theorem fk_RX12_52 : FK RX12 52 11 25 := ⟨_, _, _, rfl, by decide, gw_tb 1066 (by decide +kernel) rfl⟩
theorem fk_RX12_55 : FK RX12 55 11 26 := ⟨_, _, _, rfl, by decide, gw_tb 1067 (by decide +kernel) rfl⟩
theorem fk_RX12_58 : FK RX12 58 11 28 := ⟨_, _, _, rfl, by decide, gw_tb 1069 (by decide +kernel) rfl⟩
theorem fk_RX12_61 : FK RX12 61 11 29 := ⟨_, _, _, rfl, by decide, gw_tb 1070 (by decide +kernel) rfl⟩
theorem fk_RX12_64 : FK RX12 64 11 30 := ⟨_, _, _, rfl, by decide, gw_tb 1071 (by decide +kernel) rfl⟩
theorem fk_RX12_67 : FK RX12 67 11 31 := ⟨_, _, _, rfl, by decide, gw_tb 1072 (by decide +kernel) rfl⟩
theorem fk_RX12_70 : FK RX12 70 11 32 := ⟨_, _, _, rfl, by decide, gw_tb 1073 (by decide +kernel) rfl⟩
theorem fk_RX12_73 : FK RX12 73 11 33 := ⟨_, _, _, rfl, by decide, gw_tb 1074 (by decide +kernel) rfl⟩
theorem fk_RX12_76 : FK RX12 76 11 34 := ⟨_, _, _, rfl, by decide, gw_tb 1075 (by decide +kernel) rfl⟩
theorem fk_RX12_79 : FK RX12 79 11 35 := ⟨_, _, _, rfl, by decide, gw_tb 1076 (by decide +kernel) rfl⟩
theorem fk_RX12_82 : FK RX12 82 11 36 := ⟨_, _, _, rfl, by decide, gw_tb 1077 (by decide +kernel) rfl⟩
theorem fk_RX12_85 : FK RX12 85 11 37 := ⟨_, _, _, rfl, by decide, gw_tb 1078 (by decide +kernel) rfl⟩
theorem fk_RX12_88 : FK RX12 88 11 38 := ⟨_, _, _, rfl, by decide, gw_tb 1079 (by decide +kernel) rfl⟩
theorem fk_RX12_91 : FK RX12 91 11 39 := ⟨_, _, _, rfl, by decide, gw_tb 1080 (by decide +kernel) rfl⟩
theorem fk_RX12_94 : FK RX12 94 11 40 := ⟨_, _, _, rfl, by decide, gw_tb 1081 (by decide +kernel) rfl⟩
theorem fk_RX12_97 : FK RX12 97 11 42 := ⟨_, _, _, rfl, by decide, gw_tb 1083 (by decide +kernel) rfl⟩
theorem fk_RX12_100 : FK RX12 100 11 43 := ⟨_, _, _, rfl, by decide, gw_tb 1084 (by decide +kernel) rfl⟩
theorem fk_RX12_104 : FK RX12 104 11 44 := ⟨_, _, _, rfl, by decide, gw_tb 1085 (by decide +kernel) rfl⟩
theorem fk_RX12_107 : FK RX12 107 11 45 := ⟨_, _, _, rfl, by decide, gw_tb 1086 (by decide +kernel) rfl⟩
theorem fk_RX12_110 : FK RX12 110 11 46 := ⟨_, _, _, rfl, by decide, gw_tb 1087 (by decide +kernel) rfl⟩
theorem fk_RX12_113 : FK RX12 113 11 47 := ⟨_, _, _, rfl, by decide, gw_tb 1088 (by decide +kernel) rfl⟩
theorem fk_RX12_116 : FK RX12 116 11 49 := ⟨_, _, _, rfl, by decide, gw_tb 1090 (by decide +kernel) rfl⟩
theorem fk_RX12_119 : FK RX12 119 11 50 := ⟨_, _, _, rfl, by decide, gw_tb 1091 (by decide +kernel) rfl⟩
theorem fk_RX12_122 : FK RX12 122 11 52 := ⟨_, _, _, rfl, by decide, gw_tb 1093 (by decide +kernel) rfl⟩
theorem fk_RX12_125 : FK RX12 125 11 53 := ⟨_, _, _, rfl, by decide, gw_tb 1094 (by decide +kernel) rfl⟩
theorem fk_RX12_128 : FK RX12 128 11 55 := ⟨_, _, _, rfl, by decide, gw_tb 1096 (by decide +kernel) rfl⟩
theorem fk_RX12_131 : FK RX12 131 11 56 := ⟨_, _, _, rfl, by decide, gw_tb 1097 (by decide +kernel) rfl⟩
theorem fk_RX12_134 : FK RX12 134 11 57 := ⟨_, _, _, rfl, by decide, gw_tb 1098 (by decide +kernel) rfl⟩
theorem fk_RX12_137 : FK RX12 137 11 62 := ⟨_, _, _, rfl, by decide, gw_tb 1103 (by decide +kernel) rfl⟩
theorem fk_RX12_140 : FK RX12 140 11 63 := ⟨_, _, _, rfl, by decide, gw_tb 1104 (by decide +kernel) rfl⟩
theorem fk_RX12_143 : FK RX12 143 11 64 := ⟨_, _, _, rfl, by decide, gw_tb 1105 (by decide +kernel) rfl⟩
theorem fk_RX12_146 : FK RX12 146 11 68 := ⟨_, _, _, rfl, by decide, gw_tb 1109 (by decide +kernel) rfl⟩
theorem fk_RX12_149 : FK RX12 149 11 69 := ⟨_, _, _, rfl, by decide, gw_tb 1110 (by decide +kernel) rfl⟩
theorem fk_RX12_152 : FK RX12 152 11 70 := ⟨_, _, _, rfl, by decide, gw_tb 1111 (by decide +kernel) rfl⟩
theorem fk_RX12_155 : FK RX12 155 11 72 := ⟨_, _, _, rfl, by decide, gw_tb 1113 (by decide +kernel) rfl⟩
theorem fk_RX12_158 : FK RX12 158 11 73 := ⟨_, _, _, rfl, by decide, gw_tb 1114 (by decide +kernel) rfl⟩
theorem fk_RX12_161 : FK RX12 161 11 74 := ⟨_, _, _, rfl, by decide, gw_tb 1115 (by decide +kernel) rfl⟩
theorem fk_RX12_164 : FK RX12 164 11 75 := ⟨_, _, _, rfl, by decide, gw_tb 1116 (by decide +kernel) rfl⟩
theorem fk_RX12_167 : FK RX12 167 11 76 := ⟨_, _, _, rfl, by decide, gw_tb 1117 (by decide +kernel) rfl⟩
theorem fk_RX12_170 : FK RX12 170 11 77 := ⟨_, _, _, rfl, by decide, gw_tb 1118 (by decide +kernel) rfl⟩
theorem fk_RX12_173 : FK RX12 173 11 78 := ⟨_, _, _, rfl, by decide, gw_tb 1119 (by decide +kernel) rfl⟩
theorem fk_RX12_176 : FK RX12 176 11 80 := ⟨_, _, _, rfl, by decide, gw_tb 1121 (by decide +kernel) rfl⟩
theorem fk_RX12_179 : FK RX12 179 11 81 := ⟨_, _, _, rfl, by decide, gw_tb 1122 (by decide +kernel) rfl⟩
theorem fk_RX12_182 : FK RX12 182 11 82 := ⟨_, _, _, rfl, by decide, gw_tb 1123 (by decide +kernel) rfl⟩
theorem fk_RX12_185 : FK RX12 185 11 83 := ⟨_, _, _, rfl, by decide, gw_tb 1124 (by decide +kernel) rfl⟩
theorem fk_RX12_188 : FK RX12 188 11 85 := ⟨_, _, _, rfl, by decide, gw_tb 1126 (by decide +kernel) rfl⟩
theorem fk_RX12_191 : FK RX12 191 11 86 := ⟨_, _, _, rfl, by decide, gw_tb 1127 (by decide +kernel) rfl⟩
theorem fk_RX12_194 : FK RX12 194 11 87 := ⟨_, _, _, rfl, by decide, gw_tb 1128 (by decide +kernel) rfl⟩
theorem fk_RX12_197 : FK RX12 197 11 88 := ⟨_, _, _, rfl, by decide, gw_tb 1129 (by decide +kernel) rfl⟩
theorem fk_RX12_200 : FK RX12 200 11 89 := ⟨_, _, _, rfl, by decide, gw_tb 1130 (by decide +kernel) rfl⟩
theorem fk_RX12_203 : FK RX12 203 11 90 := ⟨_, _, _, rfl, by decide, gw_tb 1131 (by decide +kernel) rfl⟩
theorem fk_RX12_206 : FK RX12 206 11 91 := ⟨_, _, _, rfl, by decide, gw_tb 1132 (by decide +kernel) rfl⟩
theorem fk_RX12_209 : FK RX12 209 11 58 := ⟨_, _, _, rfl, by decide, gw_tb 1099 (by decide +kernel) rfl⟩
theorem fk_RX12_216 : FK RX12 216 11 2 := ⟨_, _, _, rfl, by decide, gw_tb 1043 (by decide +kernel) rfl⟩
theorem fk_RX12_223 : FK RX12 223 11 4 := ⟨_, _, _, rfl, by decide, gw_tb 1045 (by decide +kernel) rfl⟩
theorem fk_RX12_232 : FK RX12 232 11 10 := ⟨_, _, _, rfl, by decide, gw_tb 1051 (by decide +kernel) rfl⟩
theorem fk_RX12_254 : FK RX12 254 11 13 := ⟨_, _, _, rfl, by decide, gw_tb 1054 (by decide +kernel) rfl⟩
theorem fk_RX12_257 : FK RX12 257 11 11 := ⟨_, _, _, rfl, by decide, gw_tb 1052 (by decide +kernel) rfl⟩
theorem fk_RX12_260 : FK RX12 260 11 14 := ⟨_, _, _, rfl, by decide, gw_tb 1055 (by decide +kernel) rfl⟩
theorem fk_RX12_263 : FK RX12 263 11 15 := ⟨_, _, _, rfl, by decide, gw_tb 1056 (by decide +kernel) rfl⟩
theorem fk_RX12_266 : FK RX12 266 11 16 := ⟨_, _, _, rfl, by decide, gw_tb 1057 (by decide +kernel) rfl⟩
theorem fk_RX12_281 : FK RX12 281 11 12 := ⟨_, _, _, rfl, by decide, gw_tb 1053 (by decide +kernel) rfl⟩
theorem fk_RX12_284 : FK RX12 284 11 18 := ⟨_, _, _, rfl, by decide, gw_tb 1059 (by decide +kernel) rfl⟩
theorem fk_RX12_287 : FK RX12 287 11 19 := ⟨_, _, _, rfl, by decide, gw_tb 1060 (by decide +kernel) rfl⟩
theorem fk_RX12_290 : FK RX12 290 11 20 := ⟨_, _, _, rfl, by decide, gw_tb 1061 (by decide +kernel) rfl⟩
theorem fk_RX12_293 : FK RX12 293 11 27 := ⟨_, _, _, rfl, by decide, gw_tb 1068 (by decide +kernel) rfl⟩
theorem fk_RX12_296 : FK RX12 296 11 41 := ⟨_, _, _, rfl, by decide, gw_tb 1082 (by decide +kernel) rfl⟩
theorem fk_RX12_299 : FK RX12 299 11 48 := ⟨_, _, _, rfl, by decide, gw_tb 1089 (by decide +kernel) rfl⟩
theorem fk_RX12_302 : FK RX12 302 11 51 := ⟨_, _, _, rfl, by decide, gw_tb 1092 (by decide +kernel) rfl⟩
theorem fk_RX12_311 : FK RX12 311 11 61 := ⟨_, _, _, rfl, by decide, gw_tb 1102 (by decide +kernel) rfl⟩
theorem fk_RX12_314 : FK RX12 314 11 79 := ⟨_, _, _, rfl, by decide, gw_tb 1120 (by decide +kernel) rfl⟩
theorem fk_RX12_363 : FK RX12 363 11 54 := ⟨_, _, _, rfl, by decide, gw_tb 1095 (by decide +kernel) rfl⟩
theorem fk_RX12_393 : FK RX12 393 11 59 := ⟨_, _, _, rfl, by decide, gw_tb 1100 (by decide +kernel) rfl⟩
theorem fk_RX12_396 : FK RX12 396 11 60 := ⟨_, _, _, rfl, by decide, gw_tb 1101 (by decide +kernel) rfl⟩
theorem fk_RX12_399 : FK RX12 399 11 65 := ⟨_, _, _, rfl, by decide, gw_tb 1106 (by decide +kernel) rfl⟩
theorem fk_RX12_402 : FK RX12 402 11 66 := ⟨_, _, _, rfl, by decide, gw_tb 1107 (by decide +kernel) rfl⟩
theorem fk_RX12_405 : FK RX12 405 11 67 := ⟨_, _, _, rfl, by decide, gw_tb 1108 (by decide +kernel) rfl⟩
theorem fk_RX12_418 : FK RX12 418 11 71 := ⟨_, _, _, rfl, by decide, gw_tb 1112 (by decide +kernel) rfl⟩
theorem fk_RX12_506 : FK RX12 506 11 84 := ⟨_, _, _, rfl, by decide, gw_tb 1125 (by decide +kernel) rfl⟩
theorem fk_RX3_9 : FK RX3 9 2 0 := ⟨_, _, _, rfl, by decide, gw_tb 326 (by decide +kernel) rfl⟩
theorem fk_RX3_15 : FK RX3 15 2 1 := ⟨_, _, _, rfl, by decide, gw_tb 327 (by decide +kernel) rfl⟩
theorem fk_RX3_19 : FK RX3 19 2 2 := ⟨_, _, _, rfl, by decide, gw_tb 329 (by decide +kernel) rfl⟩
theorem fk_RX4_9 : FK RX4 9 3 5 := ⟨_, _, _, rfl, by decide, gw_tb 218 (by decide +kernel) rfl⟩
theorem fk_RX4_15 : FK RX4 15 3 8 := ⟨_, _, _, rfl, by decide, gw_tb 222 (by decide +kernel) rfl⟩
theorem fk_RX4_19 : FK RX4 19 3 9 := ⟨_, _, _, rfl, by decide, gw_tb 223 (by decide +kernel) rfl⟩
theorem fk_RX4_23 : FK RX4 23 3 10 := ⟨_, _, _, rfl, by decide, gw_tb 224 (by decide +kernel) rfl⟩
theorem fk_RX4_31 : FK RX4 31 3 0 := ⟨_, _, _, rfl, by decide, gw_tb 213 (by decide +kernel) rfl⟩
theorem fk_RX4_35 : FK RX4 35 3 3 := ⟨_, _, _, rfl, by decide, gw_tb 216 (by decide +kernel) rfl⟩
theorem fk_RX4_43 : FK RX4 43 3 4 := ⟨_, _, _, rfl, by decide, gw_tb 217 (by decide +kernel) rfl⟩
theorem fk_RX4_46 : FK RX4 46 3 2 := ⟨_, _, _, rfl, by decide, gw_tb 215 (by decide +kernel) rfl⟩
theorem fk_RX4_82 : FK RX4 82 3 1 := ⟨_, _, _, rfl, by decide, gw_tb 214 (by decide +kernel) rfl⟩
theorem fk_RX4_85 : FK RX4 85 7 1 := ⟨_, _, _, rfl, by decide, gw_tb 186 (by decide +kernel) rfl⟩
theorem fk_RX4_88 : FK RX4 88 3 6 := ⟨_, _, _, rfl, by decide, gw_tb 220 (by decide +kernel) rfl⟩
theorem fk_RX4_91 : FK RX4 91 3 11 := ⟨_, _, _, rfl, by decide, gw_tb 225 (by decide +kernel) rfl⟩
theorem fk_RX4_100 : FK RX4 100 3 7 := ⟨_, _, _, rfl, by decide, gw_tb 221 (by decide +kernel) rfl⟩
theorem fk_RX4_103 : FK RX4 103 6 0 := ⟨_, _, _, rfl, by decide, gw_tb 39 (by decide +kernel) rfl⟩
theorem fk_RX4_106 : FK RX4 106 7 3 := ⟨_, _, _, rfl, by decide, gw_tb 190 (by decide +kernel) rfl⟩
theorem fk_RX4_109 : FK RX4 109 7 2 := ⟨_, _, _, rfl, by decide, gw_tb 188 (by decide +kernel) rfl⟩
theorem fk_RX4_129 : FK RX4 129 6 1 := ⟨_, _, _, rfl, by decide, gw_tb 43 (by decide +kernel) rfl⟩
theorem fk_RX4_135 : FK RX4 135 6 2 := ⟨_, _, _, rfl, by decide, gw_tb 47 (by decide +kernel) rfl⟩
theorem fk_RX4_138 : FK RX4 138 6 4 := ⟨_, _, _, rfl, by decide, gw_tb 53 (by decide +kernel) rfl⟩
theorem fk_RX4_155 : FK RX4 155 6 5 := ⟨_, _, _, rfl, by decide, gw_tb 61 (by decide +kernel) rfl⟩
theorem fk_RX4_158 : FK RX4 158 6 6 := ⟨_, _, _, rfl, by decide, gw_tb 65 (by decide +kernel) rfl⟩
theorem fk_RX4_168 : FK RX4 168 6 7 := ⟨_, _, _, rfl, by decide, gw_tb 69 (by decide +kernel) rfl⟩
theorem fk_RX4_176 : FK RX4 176 6 8 := ⟨_, _, _, rfl, by decide, gw_tb 73 (by decide +kernel) rfl⟩
theorem fk_RX4_181 : FK RX4 181 6 9 := ⟨_, _, _, rfl, by decide, gw_tb 76 (by decide +kernel) rfl⟩
theorem fk_RX4_184 : FK RX4 184 6 10 := ⟨_, _, _, rfl, by decide, gw_tb 80 (by decide +kernel) rfl⟩
theorem fk_RX4_187 : FK RX4 187 6 11 := ⟨_, _, _, rfl, by decide, gw_tb 83 (by decide +kernel) rfl⟩
theorem fk_RX4_190 : FK RX4 190 6 12 := ⟨_, _, _, rfl, by decide, gw_tb 86 (by decide +kernel) rfl⟩
theorem fk_RX4_195 : FK RX4 195 6 13 := ⟨_, _, _, rfl, by decide, gw_tb 88 (by decide +kernel) rfl⟩
theorem fk_RX4_211 : FK RX4 211 6 3 := ⟨_, _, _, rfl, by decide, gw_tb 50 (by decide +kernel) rfl⟩
theorem fk_RX5_11 : FK RX5 11 4 1 := ⟨_, _, _, rfl, by decide, gw_tb 263 (by decide +kernel) rfl⟩
theorem fk_RX5_17 : FK RX5 17 4 2 := ⟨_, _, _, rfl, by decide, gw_tb 264 (by decide +kernel) rfl⟩
theorem fk_RX5_20 : FK RX5 20 4 3 := ⟨_, _, _, rfl, by decide, gw_tb 265 (by decide +kernel) rfl⟩
theorem fk_RX5_23 : FK RX5 23 4 4 := ⟨_, _, _, rfl, by decide, gw_tb 266 (by decide +kernel) rfl⟩
theorem fk_RX5_26 : FK RX5 26 4 0 := ⟨_, _, _, rfl, by decide, gw_tb 257 (by decide +kernel) rfl⟩
theorem fk_RX5_30 : FK RX5 30 6 9 := ⟨_, _, _, rfl, by decide, gw_tb 74 (by decide +kernel) rfl⟩
theorem fk_RX5_36 : FK RX5 36 6 0 := ⟨_, _, _, rfl, by decide, gw_tb 37 (by decide +kernel) rfl⟩
theorem fk_RX5_43 : FK RX5 43 6 5 := ⟨_, _, _, rfl, by decide, gw_tb 57 (by decide +kernel) rfl⟩
theorem fk_RX5_54 : FK RX5 54 6 1 := ⟨_, _, _, rfl, by decide, gw_tb 42 (by decide +kernel) rfl⟩
theorem fk_RX5_61 : FK RX5 61 6 10 := ⟨_, _, _, rfl, by decide, gw_tb 79 (by decide +kernel) rfl⟩
theorem fk_RX5_64 : FK RX5 64 6 2 := ⟨_, _, _, rfl, by decide, gw_tb 46 (by decide +kernel) rfl⟩
theorem fk_RX5_75 : FK RX5 75 6 4 := ⟨_, _, _, rfl, by decide, gw_tb 52 (by decide +kernel) rfl⟩
theorem fk_RX5_78 : FK RX5 78 6 3 := ⟨_, _, _, rfl, by decide, gw_tb 49 (by decide +kernel) rfl⟩
theorem fk_RX5_111 : FK RX5 111 1 0 := ⟨_, _, _, rfl, by decide, gw_tb 288 (by decide +kernel) rfl⟩
theorem fk_RX5_117 : FK RX5 117 1 2 := ⟨_, _, _, rfl, by decide, gw_tb 295 (by decide +kernel) rfl⟩
theorem fk_RX5_119 : FK RX5 119 1 3 := ⟨_, _, _, rfl, by decide, gw_tb 300 (by decide +kernel) rfl⟩
theorem fk_RX5_122 : FK RX5 122 1 4 := ⟨_, _, _, rfl, by decide, gw_tb 304 (by decide +kernel) rfl⟩
theorem fk_RX6_9 : FK RX6 9 5 1 := ⟨_, _, _, rfl, by decide, gw_tb 344 (by decide +kernel) rfl⟩
theorem fk_RX6_15 : FK RX6 15 5 2 := ⟨_, _, _, rfl, by decide, gw_tb 345 (by decide +kernel) rfl⟩
theorem fk_RX6_18 : FK RX6 18 5 3 := ⟨_, _, _, rfl, by decide, gw_tb 347 (by decide +kernel) rfl⟩
theorem fk_RX6_21 : FK RX6 21 5 0 := ⟨_, _, _, rfl, by decide, gw_tb 343 (by decide +kernel) rfl⟩
theorem fk_RX6_25 : FK RX6 25 4 0 := ⟨_, _, _, rfl, by decide, gw_tb 259 (by decide +kernel) rfl⟩
theorem fk_RX6_31 : FK RX6 31 6 5 := ⟨_, _, _, rfl, by decide, gw_tb 56 (by decide +kernel) rfl⟩
theorem fk_RX6_58 : FK RX6 58 1 0 := ⟨_, _, _, rfl, by decide, gw_tb 287 (by decide +kernel) rfl⟩
theorem fk_RX6_72 : FK RX6 72 1 2 := ⟨_, _, _, rfl, by decide, gw_tb 293 (by decide +kernel) rfl⟩
theorem fk_RX6_73 : FK RX6 73 1 3 := ⟨_, _, _, rfl, by decide, gw_tb 299 (by decide +kernel) rfl⟩
theorem fk_RX7_9 : FK RX7 9 6 0 := ⟨_, _, _, rfl, by decide, gw_tb 35 (by decide +kernel) rfl⟩
theorem fk_RX7_25 : FK RX7 25 6 8 := ⟨_, _, _, rfl, by decide, gw_tb 70 (by decide +kernel) rfl⟩
theorem fk_RX7_28 : FK RX7 28 6 10 := ⟨_, _, _, rfl, by decide, gw_tb 78 (by decide +kernel) rfl⟩
theorem fk_RX7_31 : FK RX7 31 6 12 := ⟨_, _, _, rfl, by decide, gw_tb 85 (by decide +kernel) rfl⟩
theorem fk_RX7_34 : FK RX7 34 6 13 := ⟨_, _, _, rfl, by decide, gw_tb 87 (by decide +kernel) rfl⟩
theorem fk_RX7_37 : FK RX7 37 6 1 := ⟨_, _, _, rfl, by decide, gw_tb 41 (by decide +kernel) rfl⟩
theorem fk_RX7_40 : FK RX7 40 6 4 := ⟨_, _, _, rfl, by decide, gw_tb 51 (by decide +kernel) rfl⟩
theorem fk_RX7_43 : FK RX7 43 6 5 := ⟨_, _, _, rfl, by decide, gw_tb 54 (by decide +kernel) rfl⟩
theorem fk_RX7_46 : FK RX7 46 6 7 := ⟨_, _, _, rfl, by decide, gw_tb 67 (by decide +kernel) rfl⟩
theorem fk_RX7_50 : FK RX7 50 6 9 := ⟨_, _, _, rfl, by decide, gw_tb 75 (by decide +kernel) rfl⟩
theorem fk_RX7_53 : FK RX7 53 6 11 := ⟨_, _, _, rfl, by decide, gw_tb 82 (by decide +kernel) rfl⟩
theorem fk_RX8_11 : FK RX8 11 7 0 := ⟨_, _, _, rfl, by decide, gw_tb 184 (by decide +kernel) rfl⟩
theorem fk_RX8_17 : FK RX8 17 7 1 := ⟨_, _, _, rfl, by decide, gw_tb 185 (by decide +kernel) rfl⟩
theorem fk_RX8_21 : FK RX8 21 7 2 := ⟨_, _, _, rfl, by decide, gw_tb 187 (by decide +kernel) rfl⟩
theorem fk_RX8_24 : FK RX8 24 7 3 := ⟨_, _, _, rfl, by decide, gw_tb 189 (by decide +kernel) rfl⟩
theorem fk_RX8_27 : FK RX8 27 7 4 := ⟨_, _, _, rfl, by decide, gw_tb 191 (by decide +kernel) rfl⟩
theorem fk_RX8_53 : FK RX8 53 7 5 := ⟨_, _, _, rfl, by decide, gw_tb 192 (by decide +kernel) rfl⟩
theorem fk_RX8_56 : FK RX8 56 7 6 := ⟨_, _, _, rfl, by decide, gw_tb 193 (by decide +kernel) rfl⟩
theorem fk_RX8_62 : FK RX8 62 7 7 := ⟨_, _, _, rfl, by decide, gw_tb 194 (by decide +kernel) rfl⟩
theorem fk_RX9_9 : FK RX9 9 8 1 := ⟨_, _, _, rfl, by decide, gw_tb 388 (by decide +kernel) rfl⟩
theorem fk_RX9_13 : FK RX9 13 8 0 := ⟨_, _, _, rfl, by decide, gw_tb 387 (by decide +kernel) rfl⟩
theorem fk_RX9_17 : FK RX9 17 1 0 := ⟨_, _, _, rfl, by decide, gw_tb 285 (by decide +kernel) rfl⟩
theorem fk_RX9_23 : FK RX9 23 1 2 := ⟨_, _, _, rfl, by decide, gw_tb 292 (by decide +kernel) rfl⟩
theorem fk_RX9_27 : FK RX9 27 1 3 := ⟨_, _, _, rfl, by decide, gw_tb 297 (by decide +kernel) rfl⟩
theorem fk_RX9_37 : FK RX9 37 8 2 := ⟨_, _, _, rfl, by decide, gw_tb 389 (by decide +kernel) rfl⟩
theorem fk_RX9_40 : FK RX9 40 8 3 := ⟨_, _, _, rfl, by decide, gw_tb 391 (by decide +kernel) rfl⟩
theorem fk_RX9_49 : FK RX9 49 4 0 := ⟨_, _, _, rfl, by decide, gw_tb 260 (by decide +kernel) rfl⟩
theorem fk_RX9_53 : FK RX9 53 1 4 := ⟨_, _, _, rfl, by decide, gw_tb 302 (by decide +kernel) rfl⟩
theorem fk_RX9_61 : FK RX9 61 8 4 := ⟨_, _, _, rfl, by decide, gw_tb 393 (by decide +kernel) rfl⟩
theorem fk_RX9_64 : FK RX9 64 6 5 := ⟨_, _, _, rfl, by decide, gw_tb 58 (by decide +kernel) rfl⟩
theorem fk_RX9_67 : FK RX9 67 6 0 := ⟨_, _, _, rfl, by decide, gw_tb 38 (by decide +kernel) rfl⟩
theorem fk_RX9_74 : FK RX9 74 8 5 := ⟨_, _, _, rfl, by decide, gw_tb 395 (by decide +kernel) rfl⟩
theorem fk_RX9_77 : FK RX9 77 8 6 := ⟨_, _, _, rfl, by decide, gw_tb 397 (by decide +kernel) rfl⟩
theorem ff_RX1_1_0 : FKf RX1 1 0 false := by
  intro C TT N h
  cases h
  exact ⟨rfl, fun h => by cases h⟩
theorem ff_RX1_1_3 : FKf RX1 1 3 false := by
  intro C TT N h
  cases h
  exact ⟨rfl, fun h => by cases h⟩
theorem ff_RX1_1_4 : FKf RX1 1 4 false := by
  intro C TT N h
  cases h
  exact ⟨rfl, fun h => by cases h⟩
theorem ff_RX10_9_1 : FKf RX10 9 1 false := by
  intro C TT N h
  cases h
  exact ⟨rfl, fun h => by cases h⟩
theorem ff_RX11_1_0 : FKf RX11 1 0 false := by
  intro C TT N h
  cases h
  exact ⟨rfl, fun h => by cases h⟩
theorem ff_RX11_1_3 : FKf RX11 1 3 false := by
  intro C TT N h
  cases h
  exact ⟨rfl, fun h => by cases h⟩
theorem ff_RX11_1_4 : FKf RX11 1 4 false := by
  intro C TT N h
  cases h
  exact ⟨rfl, fun h => by cases h⟩
theorem ff_RX11_1_5 : FKf RX11 1 5 false := by
  intro C TT N h
  cases h
  exact ⟨rfl, fun h => by cases h⟩
theorem ff_RX11_9_1 : FKf RX11 9 1 false := by
  intro C TT N h
  cases h
  exact ⟨rfl, fun h => by cases h⟩
theorem ff_RX11_10_1 : FKf RX11 10 1 false := by
  intro C TT N h
  cases h
  exact ⟨rfl, fun h => by cases h⟩
theorem ff_RX12_11_2 : FKf RX12 11 2 false := by
  intro C TT N h
  cases h
  exact ⟨rfl, fun h => by cases h⟩
theorem ff_RX12_11_4 : FKf RX12 11 4 false := by
  intro C TT N h
  cases h
  exact ⟨rfl, fun h => by cases h⟩
theorem ff_RX12_11_10 : FKf RX12 11 10 false := by
  intro C TT N h
  cases h
  exact ⟨rfl, fun h => by cases h⟩
theorem ff_RX12_11_11 : FKf RX12 11 11 false := by
  intro C TT N h
  cases h
  exact ⟨rfl, fun h => by cases h⟩
theorem ff_RX12_11_12 : FKf RX12 11 12 false := by
  intro C TT N h
  cases h
  exact ⟨rfl, fun h => by cases h⟩
theorem ff_RX12_11_13 : FKf RX12 11 13 false := by
  intro C TT N h
  cases h
  exact ⟨rfl, fun h => by cases h⟩
theorem ff_RX12_11_14 : FKf RX12 11 14 false := by
  intro C TT N h
  cases h
  exact ⟨rfl, fun h => by cases h⟩
theorem ff_RX12_11_15 : FKf RX12 11 15 false := by
  intro C TT N h
  cases h
  exact ⟨rfl, fun h => by cases h⟩
theorem ff_RX12_11_16 : FKf RX12 11 16 false := by
  intro C TT N h
  cases h
  exact ⟨rfl, fun h => by cases h⟩
theorem ff_RX12_11_17 : FKf RX12 11 17 false := by
  intro C TT N h
  cases h
  exact ⟨rfl, fun h => by cases h⟩
theorem ff_RX12_11_18 : FKf RX12 11 18 false := by
  intro C TT N h
  cases h
  exact ⟨rfl, fun h => by cases h⟩
theorem ff_RX12_11_19 : FKf RX12 11 19 false := by
  intro C TT N h
  cases h
  exact ⟨rfl, fun h => by cases h⟩
theorem ff_RX12_11_20 : FKf RX12 11 20 false := by
  intro C TT N h
  cases h
  exact ⟨rfl, fun h => by cases h⟩
theorem ff_RX12_11_27 : FKf RX12 11 27 false := by
  intro C TT N h
  cases h
  exact ⟨rfl, fun h => by cases h⟩
theorem ff_RX12_11_41 : FKf RX12 11 41 false := by
  intro C TT N h
  cases h
  exact ⟨rfl, fun h => by cases h⟩
theorem ff_RX12_11_48 : FKf RX12 11 48 false := by
  intro C TT N h
  cases h
  exact ⟨rfl, fun h => by cases h⟩
theorem ff_RX12_11_51 : FKf RX12 11 51 false := by
  intro C TT N h
  cases h
  exact ⟨rfl, fun h => by cases h⟩
theorem ff_RX12_11_54 : FKf RX12 11 54 false := by
  intro C TT N h
  cases h
  exact ⟨rfl, fun h => by cases h⟩
theorem ff_RX12_11_58 : FKf RX12 11 58 false := by
  intro C TT N h
  cases h
  exact ⟨rfl, fun h => by cases h⟩
theorem ff_RX12_11_59 : FKf RX12 11 59 false := by
  intro C TT N h
  cases h
  exact ⟨rfl, fun h => by cases h⟩
theorem ff_RX12_11_60 : FKf RX12 11 60 false := by
  intro C TT N h
  cases h
  exact ⟨rfl, fun h => by cases h⟩
theorem ff_RX12_11_61 : FKf RX12 11 61 false := by
  intro C TT N h
  cases h
  exact ⟨rfl, fun h => by cases h⟩
theorem ff_RX12_11_65 : FKf RX12 11 65 false := by
  intro C TT N h
  cases h
  exact ⟨rfl, fun h => by cases h⟩
theorem ff_RX12_11_66 : FKf RX12 11 66 false := by
  intro C TT N h
  cases h
  exact ⟨rfl, fun h => by cases h⟩
theorem ff_RX12_11_67 : FKf RX12 11 67 false := by
  intro C TT N h
  cases h
  exact ⟨rfl, fun h => by cases h⟩
theorem ff_RX12_11_71 : FKf RX12 11 71 false := by
  intro C TT N h
  cases h
  exact ⟨rfl, fun h => by cases h⟩
theorem ff_RX12_11_79 : FKf RX12 11 79 false := by
  intro C TT N h
  cases h
  exact ⟨rfl, fun h => by cases h⟩
theorem ff_RX12_11_84 : FKf RX12 11 84 false := by
  intro C TT N h
  cases h
  exact ⟨rfl, fun h => by cases h⟩
theorem ff_RX3_2_1 : FKf RX3 2 1 false := by
  intro C TT N h
  cases h
  exact ⟨rfl, fun h => by cases h⟩
theorem ff_RX3_2_2 : FKf RX3 2 2 false := by
  intro C TT N h
  cases h
  exact ⟨rfl, fun h => by cases h⟩
theorem ff_RX4_3_1 : FKf RX4 3 1 false := by
  intro C TT N h
  cases h
  exact ⟨rfl, fun h => by cases h⟩
theorem ff_RX4_3_2 : FKf RX4 3 2 false := by
  intro C TT N h
  cases h
  exact ⟨rfl, fun h => by cases h⟩
theorem ff_RX4_3_3 : FKf RX4 3 3 false := by
  intro C TT N h
  cases h
  exact ⟨rfl, fun h => by cases h⟩
theorem ff_RX4_3_4 : FKf RX4 3 4 false := by
  intro C TT N h
  cases h
  exact ⟨rfl, fun h => by cases h⟩
theorem ff_RX4_3_5 : FKf RX4 3 5 false := by
  intro C TT N h
  cases h
  exact ⟨rfl, fun h => by cases h⟩
theorem ff_RX4_3_6 : FKf RX4 3 6 false := by
  intro C TT N h
  cases h
  exact ⟨rfl, fun h => by cases h⟩
theorem ff_RX4_3_7 : FKf RX4 3 7 false := by
  intro C TT N h
  cases h
  exact ⟨rfl, fun h => by cases h⟩
theorem ff_RX4_3_11 : FKf RX4 3 11 false := by
  intro C TT N h
  cases h
  exact ⟨rfl, fun h => by cases h⟩
theorem ff_RX4_6_0 : FKf RX4 6 0 false := by
  intro C TT N h
  cases h
  exact ⟨rfl, fun h => by cases h⟩
theorem ff_RX4_6_1 : FKf RX4 6 1 false := by
  intro C TT N h
  cases h
  exact ⟨rfl, fun h => by cases h⟩
theorem ff_RX4_6_4 : FKf RX4 6 4 false := by
  intro C TT N h
  cases h
  exact ⟨rfl, fun h => by cases h⟩
theorem ff_RX4_6_5 : FKf RX4 6 5 false := by
  intro C TT N h
  cases h
  exact ⟨rfl, fun h => by cases h⟩
theorem ff_RX4_6_7 : FKf RX4 6 7 false := by
  intro C TT N h
  cases h
  exact ⟨rfl, fun h => by cases h⟩
theorem ff_RX4_6_8 : FKf RX4 6 8 false := by
  intro C TT N h
  cases h
  exact ⟨rfl, fun h => by cases h⟩
theorem ff_RX4_6_9 : FKf RX4 6 9 false := by
  intro C TT N h
  cases h
  exact ⟨rfl, fun h => by cases h⟩
theorem ff_RX4_6_10 : FKf RX4 6 10 false := by
  intro C TT N h
  cases h
  exact ⟨rfl, fun h => by cases h⟩
theorem ff_RX4_6_11 : FKf RX4 6 11 false := by
  intro C TT N h
  cases h
  exact ⟨rfl, fun h => by cases h⟩
theorem ff_RX7_6_0 : FKf RX7 6 0 false := by
  intro C TT N h
  cases h
  exact ⟨rfl, fun h => by cases h⟩
theorem ff_RX7_6_1 : FKf RX7 6 1 false := by
  intro C TT N h
  cases h
  exact ⟨rfl, fun h => by cases h⟩
theorem ff_RX7_6_4 : FKf RX7 6 4 false := by
  intro C TT N h
  cases h
  exact ⟨rfl, fun h => by cases h⟩
theorem ff_RX7_6_5 : FKf RX7 6 5 false := by
  intro C TT N h
  cases h
  exact ⟨rfl, fun h => by cases h⟩
theorem ff_RX7_6_7 : FKf RX7 6 7 false := by
  intro C TT N h
  cases h
  exact ⟨rfl, fun h => by cases h⟩
theorem ff_RX7_6_8 : FKf RX7 6 8 false := by
  intro C TT N h
  cases h
  exact ⟨rfl, fun h => by cases h⟩
theorem ff_RX7_6_9 : FKf RX7 6 9 false := by
  intro C TT N h
  cases h
  exact ⟨rfl, fun h => by cases h⟩
theorem ff_RX7_6_10 : FKf RX7 6 10 false := by
  intro C TT N h
  cases h
  exact ⟨rfl, fun h => by cases h⟩
theorem ff_RX7_6_11 : FKf RX7 6 11 false := by
  intro C TT N h
  cases h
  exact ⟨rfl, fun h => by cases h⟩
theorem ff_RX8_7_5 : FKf RX8 7 5 false := by
  intro C TT N h
  cases h
  exact ⟨rfl, fun h => by cases h⟩
theorem ff_RX8_7_6 : FKf RX8 7 6 false := by
  intro C TT N h
  cases h
  exact ⟨rfl, fun h => by cases h⟩
theorem ff_RX8_7_7 : FKf RX8 7 7 false := by
  intro C TT N h
  cases h
  exact ⟨rfl, fun h => by cases h⟩
theorem ff_RX9_8_2 : FKf RX9 8 2 false := by
  intro C TT N h
  cases h
  exact ⟨rfl, fun h => by cases h⟩
theorem ff_RX9_8_3 : FKf RX9 8 3 false := by
  intro C TT N h
  cases h
  exact ⟨rfl, fun h => by cases h⟩
theorem ff_RX9_8_4 : FKf RX9 8 4 false := by
  intro C TT N h
  cases h
  exact ⟨rfl, fun h => by cases h⟩
theorem ff_RX9_8_5 : FKf RX9 8 5 false := by
  intro C TT N h
  cases h
  exact ⟨rfl, fun h => by cases h⟩
theorem ff_RX9_8_6 : FKf RX9 8 6 false := by
  intro C TT N h
  cases h
  exact ⟨rfl, fun h => by cases h⟩
theorem ml_RX0_36 : ML RX0 36 yX0_howMany := gw_tb 900 (by decide +kernel) rfl
theorem ml_RX0_65 : ML RX0 65 yX5_turned := gw_tb 901 (by decide +kernel) rfl
theorem ml_RX1_46 : MLN RX1 46 yX11_timeAt "GalleyStroke" := by unfold MLN; decide +kernel
theorem ml_RX1_50 : MLN RX1 50 yX11_withTime "GalleyStroke" := by unfold MLN; decide +kernel
theorem ml_RX10_46 : ML RX10 46 yX10_isSuspect := gw_tb 959 (by decide +kernel) rfl
theorem ml_RX10_50 : ML RX10 50 yJ7_fill_53178 := gw_tb 996 (by decide +kernel) rfl
theorem ml_RX10_56 : ML RX10 56 yX10_clashesAt := gw_tb 997 (by decide +kernel) rfl
theorem ml_RX10_60 : ML RX10 60 yX10_greaterPart := gw_tb 1001 (by decide +kernel) rfl
theorem ml_RX10_68 : ML RX10 68 yJ6_bitCount_0f7a4 := gw_tb 963 (by decide +kernel) rfl
theorem ml_RX10_74 : ML RX10 74 yX10_breakMen := gw_tb 964 (by decide +kernel) rfl
theorem ml_RX10_78 : ML RX10 78 yX10_lastKnown := gw_tb 968 (by decide +kernel) rfl
theorem ml_RX10_85 : ML RX10 85 yX5_clashBits := gw_tb 973 (by decide +kernel) rfl
theorem ml_RX10_89 : ML RX10 89 yX10_agrees := gw_tb 974 (by decide +kernel) rfl
theorem ml_RX10_95 : ML RX10 95 yX7_isFog := gw_tb 978 (by decide +kernel) rfl
theorem ml_RX10_99 : ML RX10 99 yX5_stroke := gw_tb 979 (by decide +kernel) rfl
theorem ml_RX11_96 : ML RX11 96 yX11_tapeWord := gw_tb 491 (by decide +kernel) rfl
theorem ml_RX11_108 : ML RX11 108 yX3_clear := gw_tb 659 (by decide +kernel) rfl
theorem ml_RX11_121 : ML RX11 121 yX11_isBench := gw_tb 671 (by decide +kernel) rfl
theorem ml_RX11_129 : ML RX11 129 yX11_timeAt := gw_tb 675 (by decide +kernel) rfl
theorem ml_RX11_146 : ML RX11 146 yX7_isFog := gw_tb 678 (by decide +kernel) rfl
theorem ml_RX11_149 : ML RX11 149 yX5_heard := gw_tb 682 (by decide +kernel) rfl
theorem ml_RX11_155 : ML RX11 155 yX3_keep := gw_tb 690 (by decide +kernel) rfl
theorem ml_RX11_159 : ML RX11 159 yX5_stroke := gw_tb 695 (by decide +kernel) rfl
theorem ml_RX11_165 : ML RX11 165 yX3_takeLast := gw_tb 726 (by decide +kernel) rfl
theorem ml_RX11_169 : ML RX11 169 yX5_clashBits := gw_tb 737 (by decide +kernel) rfl
theorem ml_RX11_173 : ML RX11 173 yX5_wayPart := gw_tb 752 (by decide +kernel) rfl
theorem ml_RX11_176 : ML RX11 176 yX5_menNear := gw_tb 761 (by decide +kernel) rfl
theorem ml_RX11_180 : ML RX11 180 yX5_waveOf := gw_tb 766 (by decide +kernel) rfl
theorem ml_RX11_183 : ML RX11 183 yX5_wayOf := gw_tb 774 (by decide +kernel) rfl
theorem ml_RX11_186 : ML RX11 186 yX5_mostClashing := gw_tb 783 (by decide +kernel) rfl
theorem ml_RX11_190 : ML RX11 190 yX9_findRound := gw_tb 798 (by decide +kernel) rfl
theorem ml_RX11_200 : ML RX11 200 yX1_exchange := gw_tb 807 (by decide +kernel) rfl
theorem ml_RX11_209 : ML RX11 209 yX11_withTime := gw_tb 821 (by decide +kernel) rfl
theorem ml_RX11_213 : ML RX11 213 yX6_isAim := gw_tb 830 (by decide +kernel) rfl
theorem ml_RX11_217 : ML RX11 217 yX6_bestOrder := gw_tb 833 (by decide +kernel) rfl
theorem ml_RX11_224 : ML RX11 224 yX6_bestExchange := gw_tb 879 (by decide +kernel) rfl
theorem ml_RX11_240 : ML RX11 240 yX9_planRam := gw_tb 912 (by decide +kernel) rfl
theorem ml_RX11_255 : ML RX11 255 yX9_weighed := gw_tb 927 (by decide +kernel) rfl
theorem ml_RX11_259 : ML RX11 259 yX10_isStroke := gw_tb 936 (by decide +kernel) rfl
theorem ml_RX11_262 : ML RX11 262 yX10_note := gw_tb 939 (by decide +kernel) rfl
theorem ml_RX11_266 : ML RX11 266 yX10_isQuestion := gw_tb 951 (by decide +kernel) rfl
theorem ml_RX11_269 : ML RX11 269 yX10_countSets := gw_tb 955 (by decide +kernel) rfl
theorem ml_RX11_273 : ML RX11 273 yX10_setNumber := gw_tb 984 (by decide +kernel) rfl
theorem ml_RX11_277 : ML RX11 277 yX10_evenestBench := gw_tb 992 (by decide +kernel) rfl
theorem ml_RX11_280 : ML RX11 280 yX1_take := gw_tb 1009 (by decide +kernel) rfl
theorem ml_RX11_284 : ML RX11 284 yX11_orNotSo := gw_tb 1022 (by decide +kernel) rfl
theorem ml_RX11_296 : ML RX11 296 yX11_heldSlots := gw_tb 1025 (by decide +kernel) rfl
theorem ml_RX12_219 : ML RX12 219 yX12_put := gw_tb 1323 (by decide +kernel) rfl
theorem ml_RX12_228 : ML RX12 228 yX12_appends := gw_tb 1038 (by decide +kernel) rfl
theorem ml_RX12_235 : ML RX12 235 yX12_byteAt := gw_tb 1339 (by decide +kernel) rfl
theorem ml_RX12_239 : ML RX12 239 yX12_token := gw_tb 1343 (by decide +kernel) rfl
theorem ml_RX12_243 : ML RX12 243 yX12_isLetter := gw_tb 1347 (by decide +kernel) rfl
theorem ml_RX12_247 : ML RX12 247 yX12_isDigit := gw_tb 1350 (by decide +kernel) rfl
theorem ml_RX12_250 : ML RX12 250 yX12_sign := gw_tb 1353 (by decide +kernel) rfl
theorem ml_RX12_269 : ML RX12 269 yX12_fail := gw_tb 1369 (by decide +kernel) rfl
theorem ml_RX12_272 : ML RX12 272 yX12_is := gw_tb 1357 (by decide +kernel) rfl
theorem ml_RX12_275 : ML RX12 275 yX12_goesOn := gw_tb 1365 (by decide +kernel) rfl
theorem ml_RX12_278 : ML RX12 278 yX12_cut := gw_tb 1335 (by decide +kernel) rfl
theorem ml_RX12_305 : ML RX12 305 yX12_tell := gw_tb 1361 (by decide +kernel) rfl
theorem ml_RX12_308 : ML RX12 308 yX12_begins := gw_tb 1459 (by decide +kernel) rfl
theorem ml_RX12_317 : ML RX12 317 yX12_bounded := gw_tb 1373 (by decide +kernel) rfl
theorem ml_RX12_321 : ML RX12 321 yX12_must := gw_tb 1381 (by decide +kernel) rfl
theorem ml_RX12_324 : ML RX12 324 yX12_roomFor := gw_tb 1385 (by decide +kernel) rfl
theorem ml_RX12_328 : ML RX12 328 yX12_tellLaw := gw_tb 1389 (by decide +kernel) rfl
theorem ml_RX12_331 : ML RX12 331 yX12_tellMan := gw_tb 1447 (by decide +kernel) rfl
theorem ml_RX12_334 : ML RX12 334 yX12_part := gw_tb 1451 (by decide +kernel) rfl
theorem ml_RX12_338 : ML RX12 338 yX12_tellFog := gw_tb 1455 (by decide +kernel) rfl
theorem ml_RX12_341 : ML RX12 341 yX12_wrong := gw_tb 1377 (by decide +kernel) rfl
theorem ml_RX12_344 : ML RX12 344 yX12_named := gw_tb 1393 (by decide +kernel) rfl
theorem ml_RX12_347 : ML RX12 347 yX12_notes := gw_tb 1443 (by decide +kernel) rfl
theorem ml_RX12_350 : ML RX12 350 yX12_condition := gw_tb 1397 (by decide +kernel) rfl
theorem ml_RX12_353 : ML RX12 353 yX12_term := gw_tb 1439 (by decide +kernel) rfl
theorem ml_RX12_356 : ML RX12 356 yX12_expression := gw_tb 1405 (by decide +kernel) rfl
theorem ml_RX12_359 : ML RX12 359 yX12_literal := gw_tb 1401 (by decide +kernel) rfl
theorem ml_RX12_366 : ML RX12 366 yX12_isWall := gw_tb 1436 (by decide +kernel) rfl
theorem ml_RX12_369 : ML RX12 369 yX12_emit := gw_tb 1421 (by decide +kernel) rfl
theorem ml_RX12_372 : ML RX12 372 yX12_pushes := gw_tb 1413 (by decide +kernel) rfl
theorem ml_RX12_375 : ML RX12 375 yX12_opensMany := gw_tb 1409 (by decide +kernel) rfl
theorem ml_RX12_378 : ML RX12 378 yX12_unit := gw_tb 1417 (by decide +kernel) rfl
theorem ml_RX12_381 : ML RX12 381 yX12_closesMany := gw_tb 1428 (by decide +kernel) rfl
theorem ml_RX12_384 : ML RX12 384 yX12_comesOut := gw_tb 1432 (by decide +kernel) rfl
theorem ml_RX12_387 : ML RX12 387 yX12_variableOf := gw_tb 1425 (by decide +kernel) rfl
theorem ml_RX12_390 : ML RX12 390 yX12_menNow := gw_tb 1463 (by decide +kernel) rfl
theorem ml_RX12_408 : ML RX12 408 yX12_all := gw_tb 1498 (by decide +kernel) rfl
theorem ml_RX12_411 : ML RX12 411 yX12_rest := gw_tb 1494 (by decide +kernel) rfl
theorem ml_RX12_414 : ML RX12 414 yX12_in := gw_tb 1479 (by decide +kernel) rfl
theorem ml_RX12_422 : ML RX12 422 yX12_gap := gw_tb 1526 (by decide +kernel) rfl
theorem ml_RX12_425 : ML RX12 425 yX12_termOf := gw_tb 1522 (by decide +kernel) rfl
theorem ml_RX12_428 : ML RX12 428 yX12_isTrue := gw_tb 1518 (by decide +kernel) rfl
theorem ml_RX12_431 : ML RX12 431 yX12_holds := gw_tb 1514 (by decide +kernel) rfl
theorem ml_RX12_434 : ML RX12 434 yX12_heard := gw_tb 1490 (by decide +kernel) rfl
theorem ml_RX12_438 : ML RX12 438 yX12_rowsBy := gw_tb 1510 (by decide +kernel) rfl
theorem ml_RX12_441 : ML RX12 441 yX12_isBench := gw_tb 1475 (by decide +kernel) rfl
theorem ml_RX12_444 : ML RX12 444 yX12_takes := gw_tb 1482 (by decide +kernel) rfl
theorem ml_RX12_447 : ML RX12 447 yX12_isFog := gw_tb 1486 (by decide +kernel) rfl
theorem ml_RX12_450 : ML RX12 450 yX12_strikes := gw_tb 1506 (by decide +kernel) rfl
theorem ml_RX12_453 : ML RX12 453 yX12_clashesNow := gw_tb 1538 (by decide +kernel) rfl
theorem ml_RX12_456 : ML RX12 456 yX12_nearTo := gw_tb 1550 (by decide +kernel) rfl
theorem ml_RX12_459 : ML RX12 459 yX12_wayNow := gw_tb 1546 (by decide +kernel) rfl
theorem ml_RX12_462 : ML RX12 462 yX12_isStill := gw_tb 1570 (by decide +kernel) rfl
theorem ml_RX12_466 : ML RX12 466 yX12_isAt := gw_tb 1578 (by decide +kernel) rfl
theorem ml_RX12_469 : ML RX12 469 yX12_sits := gw_tb 1614 (by decide +kernel) rfl
theorem ml_RX12_472 : ML RX12 472 yX12_bits := gw_tb 1618 (by decide +kernel) rfl
theorem ml_RX12_475 : ML RX12 475 yX12_comesTo := gw_tb 1610 (by decide +kernel) rfl
theorem ml_RX12_478 : ML RX12 478 yX12_isBetter := gw_tb 1622 (by decide +kernel) rfl
theorem ml_RX12_481 : ML RX12 481 yX12_nextOrder := gw_tb 1625 (by decide +kernel) rfl
theorem ml_RX12_484 : ML RX12 484 yX12_canSeat := gw_tb 1602 (by decide +kernel) rfl
theorem ml_RX12_488 : ML RX12 488 yX12_seats := gw_tb 1606 (by decide +kernel) rfl
theorem ml_RX12_491 : ML RX12 491 yX12_numberOf := gw_tb 1645 (by decide +kernel) rfl
theorem ml_RX12_494 : ML RX12 494 yX12_follows := gw_tb 1649 (by decide +kernel) rfl
theorem ml_RX12_497 : ML RX12 497 yX12_fillEvery := gw_tb 1641 (by decide +kernel) rfl
theorem ml_RX12_503 : ML RX12 503 yX12_breaks := gw_tb 1686 (by decide +kernel) rfl
theorem ml_RX12_509 : ML RX12 509 yX12_fits := gw_tb 1682 (by decide +kernel) rfl
theorem ml_RX12_512 : ML RX12 512 yX12_canSuspect := gw_tb 1674 (by decide +kernel) rfl
theorem ml_RX12_515 : ML RX12 515 yX12_fillSuspects := gw_tb 1678 (by decide +kernel) rfl
theorem ml_RX12_518 : ML RX12 518 yX12_greater := gw_tb 1698 (by decide +kernel) rfl
theorem ml_RX4_39 : ML RX4 39 yX4_begin := gw_tb 507 (by decide +kernel) rfl
theorem ml_RX4_49 : ML RX4 49 yX4_readParts := gw_tb 559 (by decide +kernel) rfl
theorem ml_RX4_52 : ML RX4 52 yX4_readLaw := gw_tb 577 (by decide +kernel) rfl
theorem ml_RX4_55 : ML RX4 55 yX4_readMan := gw_tb 620 (by decide +kernel) rfl
theorem ml_RX4_58 : ML RX4 58 yX4_readDrum := gw_tb 637 (by decide +kernel) rfl
theorem ml_RX4_61 : ML RX4 61 yX4_readSong := gw_tb 642 (by decide +kernel) rfl
theorem ml_RX4_64 : ML RX4 64 yX4_readFog := gw_tb 646 (by decide +kernel) rfl
theorem ml_RX4_67 : ML RX4 67 yX4_fail := gw_tb 581 (by decide +kernel) rfl
theorem ml_RX4_71 : ML RX4 71 yX4_takeLaterFault := gw_tb 651 (by decide +kernel) rfl
theorem ml_RX4_74 : ML RX4 74 yX7_clear := gw_tb 511 (by decide +kernel) rfl
theorem ml_RX4_79 : ML RX4 79 yX8_cut := gw_tb 515 (by decide +kernel) rfl
theorem ml_RX4_94 : ML RX4 94 yJ7_fill_53178 := gw_tb 556 (by decide +kernel) rfl
theorem ml_RX4_114 : ML RX4 114 yX4_take := gw_tb 563 (by decide +kernel) rfl
theorem ml_RX4_118 : ML RX4 118 yX4_taken := gw_tb 567 (by decide +kernel) rfl
theorem ml_RX4_126 : ML RX4 126 yX4_slipAtTaken := gw_tb 573 (by decide +kernel) rfl
theorem ml_RX4_132 : ML RX4 132 yX4_noteName := gw_tb 585 (by decide +kernel) rfl
theorem ml_RX4_141 : ML RX4 141 yX4_readCondition := gw_tb 589 (by decide +kernel) rfl
theorem ml_RX4_144 : ML RX4 144 yX4_emit := gw_tb 605 (by decide +kernel) rfl
theorem ml_RX4_148 : ML RX4 148 yX4_readExpression := gw_tb 597 (by decide +kernel) rfl
theorem ml_RX4_152 : ML RX4 152 yX4_land := gw_tb 616 (by decide +kernel) rfl
theorem ml_RX4_161 : ML RX4 161 yX4_lawNamed := gw_tb 624 (by decide +kernel) rfl
theorem ml_RX4_165 : ML RX4 165 yX4_noteBeyond := gw_tb 628 (by decide +kernel) rfl
theorem ml_RX4_172 : MLN RX4 172 yX11_withTime "GalleyStroke" := by unfold MLN; decide +kernel
theorem ml_RX4_198 : ML RX4 198 yX4_readRelation := gw_tb 593 (by decide +kernel) rfl
theorem ml_RX4_201 : ML RX4 201 yX4_landChain := gw_tb 612 (by decide +kernel) rfl
theorem ml_RX4_204 : ML RX4 204 yX4_readUnit := gw_tb 601 (by decide +kernel) rfl
theorem ml_RX4_207 : ML RX4 207 yX4_joinsAt := gw_tb 609 (by decide +kernel) rfl
theorem ml_RX5_39 : MLN RX5 39 yX11_timeAt "GalleyStroke" := by unfold MLN; decide +kernel
theorem ml_RX5_46 : ML RX5 46 yX5_turned := gw_tb 700 (by decide +kernel) rfl
theorem ml_RX5_50 : MLN RX5 50 yX11_withTime "GalleyStroke" := by unfold MLN; decide +kernel
theorem ml_RX5_57 : ML RX5 57 yX5_heard := gw_tb 704 (by decide +kernel) rfl
theorem ml_RX5_67 : ML RX5 67 yX5_worked := gw_tb 705 (by decide +kernel) rfl
theorem ml_RX5_71 : ML RX5 71 yX5_rest := gw_tb 717 (by decide +kernel) rfl
theorem ml_RX5_83 : ML RX5 83 yX5_joined := gw_tb 709 (by decide +kernel) rfl
theorem ml_RX5_87 : ML RX5 87 yX5_gap := gw_tb 713 (by decide +kernel) rfl
theorem ml_RX5_90 : ML RX5 90 yX5_gapAhead := gw_tb 741 (by decide +kernel) rfl
theorem ml_RX5_98 : ML RX5 98 yX5_wayPart := gw_tb 778 (by decide +kernel) rfl
theorem ml_RX5_102 : ML RX5 102 yX5_menNear := gw_tb 757 (by decide +kernel) rfl
theorem ml_RX5_105 : ML RX5 105 yJ7_fill_53178 := gw_tb 756 (by decide +kernel) rfl
theorem ml_RX5_125 : ML RX5 125 yX7_isFog := gw_tb 787 (by decide +kernel) rfl
theorem ml_RX5_129 : ML RX5 129 yX5_stroke := gw_tb 788 (by decide +kernel) rfl
theorem ml_RX5_132 : ML RX5 132 yX5_clashBits := gw_tb 789 (by decide +kernel) rfl
theorem ml_RX6_37 : ML RX6 37 yX6_sitAsNow := gw_tb 837 (by decide +kernel) rfl
theorem ml_RX6_46 : ML RX6 46 yX6_cost := gw_tb 844 (by decide +kernel) rfl
theorem ml_RX6_50 : ML RX6 50 yX6_goToNextOrder := gw_tb 863 (by decide +kernel) rfl
theorem ml_RX6_54 : ML RX6 54 yX6_swap := gw_tb 867 (by decide +kernel) rfl
theorem ml_RX6_64 : MLN RX6 64 yX11_timeAt "GalleyStroke" := by unfold MLN; decide +kernel
theorem ml_RX6_68 : MLN RX6 68 yX11_withTime "GalleyStroke" := by unfold MLN; decide +kernel
theorem ml_RX6_76 : ML RX6 76 yX5_stroke := gw_tb 850 (by decide +kernel) rfl
theorem ml_RX6_80 : ML RX6 80 yX6_costOf := gw_tb 851 (by decide +kernel) rfl
theorem ml_RX6_84 : ML RX6 84 yX5_clashBits := gw_tb 855 (by decide +kernel) rfl
theorem ml_RX6_88 : ML RX6 88 yJ6_bitCount_0f7a4 := gw_tb 856 (by decide +kernel) rfl
theorem ml_RX6_94 : ML RX6 94 yX5_wayOf := gw_tb 862 (by decide +kernel) rfl
theorem ml_RX8_43 : ML RX8 43 yX8_withLetter := gw_tb 181 (by decide +kernel) rfl
theorem ml_RX8_59 : ML RX8 59 yX8_skipBlanks := gw_tb 522 (by decide +kernel) rfl
theorem ml_RX8_66 : ML RX8 66 yX8_nextKind := gw_tb 533 (by decide +kernel) rfl
theorem ml_RX8_69 : ML RX8 69 yX8_byteAt := gw_tb 526 (by decide +kernel) rfl
theorem ml_RX8_73 : ML RX8 73 yX8_isBlank := gw_tb 530 (by decide +kernel) rfl
theorem ml_RX8_77 : ML RX8 77 yX8_isLetter := gw_tb 537 (by decide +kernel) rfl
theorem ml_RX8_80 : ML RX8 80 yX8_nextWord := gw_tb 540 (by decide +kernel) rfl
theorem ml_RX8_83 : ML RX8 83 yX8_isDigit := gw_tb 544 (by decide +kernel) rfl
theorem ml_RX8_86 : ML RX8 86 yX8_nextInt := gw_tb 547 (by decide +kernel) rfl
theorem ml_RX8_89 : ML RX8 89 yX8_nextSign := gw_tb 552 (by decide +kernel) rfl
theorem ml_RX9_31 : ML RX9 31 yX5_stroke := gw_tb 802 (by decide +kernel) rfl
theorem ml_RX9_55 : ML RX9 55 yX7_isFog := gw_tb 917 (by decide +kernel) rfl
theorem ml_RX9_70 : ML RX9 70 yX9_wayBehind := gw_tb 918 (by decide +kernel) rfl
theorem ml_RX9_80 : ML RX9 80 yX5_wayOf := gw_tb 922 (by decide +kernel) rfl
theorem ml_RX9_84 : ML RX9 84 yX9_weighed := gw_tb 931 (by decide +kernel) rfl
theorem mm_RX0_40 : MM RX0 40 Lib.Math.min.name Lib.Math.min.code 2 := ⟨gw_tb 899 (by decide +kernel) rfl, gw_tb 520 (by decide +kernel) rfl, gw_tb 17 (by decide +kernel) rfl, gw_tb 521 (by decide +kernel) rfl⟩
theorem mm_RX10_63 : MM RX10 63 Lib.Math.max.name Lib.Math.max.code 2 := ⟨gw_tb 972 (by decide +kernel) rfl, gw_tb 731 (by decide +kernel) rfl, gw_tb 17 (by decide +kernel) rfl, gw_tb 732 (by decide +kernel) rfl⟩
theorem mm_RX3_22 : MM RX3 22 Lib.Math.min.name Lib.Math.min.code 2 := ⟨gw_tb 694 (by decide +kernel) rfl, gw_tb 520 (by decide +kernel) rfl, gw_tb 17 (by decide +kernel) rfl, gw_tb 521 (by decide +kernel) rfl⟩
theorem mm_RX3_28 : MM RX3 28 Lib.Math.max.name Lib.Math.max.code 2 := ⟨gw_tb 730 (by decide +kernel) rfl, gw_tb 731 (by decide +kernel) rfl, gw_tb 17 (by decide +kernel) rfl, gw_tb 732 (by decide +kernel) rfl⟩
theorem mm_RX5_93 : MM RX5 93 Lib.Math.abs.name Lib.Math.abs.code 1 := ⟨gw_tb 745 (by decide +kernel) rfl, gw_tb 746 (by decide +kernel) rfl, gw_tb 17 (by decide +kernel) rfl, gw_tb 747 (by decide +kernel) rfl⟩
theorem mm_RX8_47 : MM RX8 47 Lib.Math.min.name Lib.Math.min.code 2 := ⟨gw_tb 519 (by decide +kernel) rfl, gw_tb 520 (by decide +kernel) rfl, gw_tb 17 (by decide +kernel) rfl, gw_tb 521 (by decide +kernel) rfl⟩
theorem mm_RX9_43 : MM RX9 43 Lib.Math.min.name Lib.Math.min.code 2 := ⟨gw_tb 916 (by decide +kernel) rfl, gw_tb 520 (by decide +kernel) rfl, gw_tb 17 (by decide +kernel) rfl, gw_tb 521 (by decide +kernel) rfl⟩
theorem ac_RX1_40 : Cond.methodLink RX1 40 arraycopyName ∈ gw := gw_tb 1013 (by decide +kernel) rfl
theorem ac_nat : Cond.native arraycopyName ∈ gw := gw_tb 843 (by decide +kernel) rfl
theorem ac_stat : Cond.static arraycopyName ∈ gw := gw_tb 842 (by decide +kernel) rfl
theorem ac_ini : Cond.initialized "java/lang/System" ∈ gw := gw_tb 19 (by decide +kernel) rfl
theorem ac_RX6_40 : Cond.methodLink RX6 40 arraycopyName ∈ gw := gw_tb 841 (by decide +kernel) rfl
theorem mb_J6_bitCount_0f7a4 : MB yJ6_bitCount_0f7a4 cJ6_bitCount_0f7a4 1 (some .int) 1 := ⟨gw_tb 20 (by decide +kernel) rfl, gw_tb 858 (by decide +kernel) rfl, by decide +kernel, by decide +kernel, by decide +kernel⟩
theorem ms_J6_bitCount_0f7a4 : Cond.static yJ6_bitCount_0f7a4 ∈ gw := gw_tb 857 (by decide +kernel) rfl
theorem mb_J7_fill_53178 : MB yJ7_fill_53178 cJ7_fill_53178 4 none 2 := ⟨gw_tb 18 (by decide +kernel) rfl, gw_tb 558 (by decide +kernel) rfl, by decide +kernel, by decide +kernel, by decide +kernel⟩
theorem ms_J7_fill_53178 : Cond.static yJ7_fill_53178 ∈ gw := gw_tb 557 (by decide +kernel) rfl
theorem mb_X0_howMany : MB yX0_howMany cX0_howMany 4 (some .int) 1 := ⟨gw_tb 13 (by decide +kernel) rfl, gw_tb 890 (by decide +kernel) rfl, by decide +kernel, by decide +kernel, by decide +kernel⟩
theorem mv_X0_howMany : MV yX0_howMany := ⟨gw_tb 888 (by decide +kernel) rfl, gw_tb 889 (by decide +kernel) rfl⟩
theorem mb_X10_agrees : MB yX10_agrees cX10_agrees 5 (some .boolean) 3 := ⟨gw_tb 15 (by decide +kernel) rfl, gw_tb 977 (by decide +kernel) rfl, by decide +kernel, by decide +kernel, by decide +kernel⟩
theorem mv_X10_agrees : MV yX10_agrees := ⟨gw_tb 976 (by decide +kernel) rfl, gw_pr 46 (q := (yX10_agrees, 7)) (by decide +kernel) rfl⟩
theorem mb_X10_breakMen : MB yX10_breakMen cX10_breakMen 3 none 1 := ⟨gw_tb 15 (by decide +kernel) rfl, gw_tb 967 (by decide +kernel) rfl, by decide +kernel, by decide +kernel, by decide +kernel⟩
theorem mv_X10_breakMen : MV yX10_breakMen := ⟨gw_tb 966 (by decide +kernel) rfl, gw_pr 44 (q := (yX10_breakMen, 7)) (by decide +kernel) rfl⟩
theorem mb_X10_clashesAt : MB yX10_clashesAt cX10_clashesAt 6 (some .int) 2 := ⟨gw_tb 15 (by decide +kernel) rfl, gw_tb 1000 (by decide +kernel) rfl, by decide +kernel, by decide +kernel, by decide +kernel⟩
theorem mv_X10_clashesAt : MV yX10_clashesAt := ⟨gw_tb 999 (by decide +kernel) rfl, gw_pr 47 (q := (yX10_clashesAt, 7)) (by decide +kernel) rfl⟩
theorem mb_X10_countSets : MB yX10_countSets cX10_countSets 5 (some .int) 2 := ⟨gw_tb 15 (by decide +kernel) rfl, gw_tb 958 (by decide +kernel) rfl, by decide +kernel, by decide +kernel, by decide +kernel⟩
theorem mv_X10_countSets : MV yX10_countSets := ⟨gw_tb 956 (by decide +kernel) rfl, gw_tb 957 (by decide +kernel) rfl⟩
theorem mb_X10_evenestBench : MB yX10_evenestBench cX10_evenestBench 9 (some .int) 3 := ⟨gw_tb 15 (by decide +kernel) rfl, gw_tb 995 (by decide +kernel) rfl, by decide +kernel, by decide +kernel, by decide +kernel⟩
theorem mv_X10_evenestBench : MV yX10_evenestBench := ⟨gw_tb 993 (by decide +kernel) rfl, gw_tb 994 (by decide +kernel) rfl⟩
theorem mb_X10_greaterPart : MB yX10_greaterPart cX10_greaterPart 3 (some .int) 2 := ⟨gw_tb 15 (by decide +kernel) rfl, gw_tb 1004 (by decide +kernel) rfl, by decide +kernel, by decide +kernel, by decide +kernel⟩
theorem mv_X10_greaterPart : MV yX10_greaterPart := ⟨gw_tb 1003 (by decide +kernel) rfl, gw_pr 48 (q := (yX10_greaterPart, 7)) (by decide +kernel) rfl⟩
theorem mb_X10_isQuestion : MB yX10_isQuestion cX10_isQuestion 3 (some .boolean) 2 := ⟨gw_tb 15 (by decide +kernel) rfl, gw_tb 954 (by decide +kernel) rfl, by decide +kernel, by decide +kernel, by decide +kernel⟩
theorem mv_X10_isQuestion : MV yX10_isQuestion := ⟨gw_tb 952 (by decide +kernel) rfl, gw_tb 953 (by decide +kernel) rfl⟩
theorem mb_X10_isStroke : MB yX10_isStroke cX10_isStroke 1 (some .boolean) 1 := ⟨gw_tb 15 (by decide +kernel) rfl, gw_tb 938 (by decide +kernel) rfl, by decide +kernel, by decide +kernel, by decide +kernel⟩
theorem ms_X10_isStroke : Cond.static yX10_isStroke ∈ gw := gw_tb 937 (by decide +kernel) rfl
theorem mb_X10_isSuspect : MB yX10_isSuspect cX10_isSuspect 8 (some .boolean) 3 := ⟨gw_tb 15 (by decide +kernel) rfl, gw_tb 962 (by decide +kernel) rfl, by decide +kernel, by decide +kernel, by decide +kernel⟩
theorem mv_X10_isSuspect : MV yX10_isSuspect := ⟨gw_tb 961 (by decide +kernel) rfl, gw_pr 43 (q := (yX10_isSuspect, 7)) (by decide +kernel) rfl⟩
theorem mb_X10_lastKnown : MB yX10_lastKnown cX10_lastKnown 4 (some .int) 1 := ⟨gw_tb 15 (by decide +kernel) rfl, gw_tb 971 (by decide +kernel) rfl, by decide +kernel, by decide +kernel, by decide +kernel⟩
theorem mv_X10_lastKnown : MV yX10_lastKnown := ⟨gw_tb 970 (by decide +kernel) rfl, gw_pr 45 (q := (yX10_lastKnown, 7)) (by decide +kernel) rfl⟩
theorem mb_X10_note : MB yX10_note cX10_note 4 (some .int) 3 := ⟨gw_tb 15 (by decide +kernel) rfl, gw_tb 942 (by decide +kernel) rfl, by decide +kernel, by decide +kernel, by decide +kernel⟩
theorem mv_X10_note : MV yX10_note := ⟨gw_tb 940 (by decide +kernel) rfl, gw_tb 941 (by decide +kernel) rfl⟩
theorem mb_X10_setNumber : MB yX10_setNumber cX10_setNumber 6 (some .int) 3 := ⟨gw_tb 15 (by decide +kernel) rfl, gw_tb 987 (by decide +kernel) rfl, by decide +kernel, by decide +kernel, by decide +kernel⟩
theorem mv_X10_setNumber : MV yX10_setNumber := ⟨gw_tb 985 (by decide +kernel) rfl, gw_tb 986 (by decide +kernel) rfl⟩
theorem mb_X11_heldSlots : MB yX11_heldSlots cX11_heldSlots 3 (some .int) 0 := ⟨gw_tb 1 (by decide +kernel) rfl, gw_tb 1028 (by decide +kernel) rfl, by decide +kernel, by decide +kernel, by decide +kernel⟩
theorem mv_X11_heldSlots : MV yX11_heldSlots := ⟨gw_tb 1027 (by decide +kernel) rfl, gw_pr 49 (q := (yX11_heldSlots, 13)) (by decide +kernel) rfl⟩
theorem mb_X11_isBench : MB yX11_isBench cX11_isBench 2 (some .boolean) 1 := ⟨gw_tb 1 (by decide +kernel) rfl, gw_tb 674 (by decide +kernel) rfl, by decide +kernel, by decide +kernel, by decide +kernel⟩
theorem mv_X11_isBench : MV yX11_isBench := ⟨gw_tb 673 (by decide +kernel) rfl, gw_pr 30 (q := (yX11_isBench, 13)) (by decide +kernel) rfl⟩
theorem mb_X11_orNotSo : MB yX11_orNotSo cX11_orNotSo 1 (some .int) 1 := ⟨gw_tb 1 (by decide +kernel) rfl, gw_tb 1024 (by decide +kernel) rfl, by decide +kernel, by decide +kernel, by decide +kernel⟩
theorem ms_X11_orNotSo : Cond.static yX11_orNotSo ∈ gw := gw_tb 1023 (by decide +kernel) rfl
theorem mb_X11_tapeWord : MB yX11_tapeWord cX11_tapeWord 3 none 1 := ⟨gw_tb 1 (by decide +kernel) rfl, gw_tb 494 (by decide +kernel) rfl, by decide +kernel, by decide +kernel, by decide +kernel⟩
theorem mv_X11_tapeWord : MV yX11_tapeWord := ⟨gw_tb 493 (by decide +kernel) rfl, gw_pr 0 (q := (yX11_tapeWord, 13)) (by decide +kernel) rfl⟩
theorem mb_X11_timeAt : MB yX11_timeAt cX11_timeAt 3 (some .int) 2 := ⟨gw_tb 1 (by decide +kernel) rfl, gw_tb 677 (by decide +kernel) rfl, by decide +kernel, by decide +kernel, by decide +kernel⟩
theorem ms_X11_timeAt : Cond.static yX11_timeAt ∈ gw := gw_tb 676 (by decide +kernel) rfl
theorem mb_X11_withTime : MB yX11_withTime cX11_withTime 5 (some .long) 3 := ⟨gw_tb 1 (by decide +kernel) rfl, gw_tb 634 (by decide +kernel) rfl, by decide +kernel, by decide +kernel, by decide +kernel⟩
theorem ms_X11_withTime : Cond.static yX11_withTime ∈ gw := gw_tb 633 (by decide +kernel) rfl
theorem mb_X12_all : MB yX12_all cX12_all 1 (some .int) 0 := ⟨gw_tb 16 (by decide +kernel) rfl, gw_tb 1501 (by decide +kernel) rfl, by decide +kernel, by decide +kernel, by decide +kernel⟩
theorem mv_X12_all : MV yX12_all := ⟨gw_tb 1500 (by decide +kernel) rfl, gw_pr 86 (q := (yX12_all, 92)) (by decide +kernel) rfl⟩
theorem mb_X12_appends : MB yX12_appends cX12_appends 3 (some .long) 2 := ⟨gw_tb 16 (by decide +kernel) rfl, gw_tb 1040 (by decide +kernel) rfl, by decide +kernel, by decide +kernel, by decide +kernel⟩
theorem ms_X12_appends : Cond.static yX12_appends ∈ gw := gw_tb 1039 (by decide +kernel) rfl
theorem mb_X12_begins : MB yX12_begins cX12_begins 2 none 0 := ⟨gw_tb 16 (by decide +kernel) rfl, gw_tb 1462 (by decide +kernel) rfl, by decide +kernel, by decide +kernel, by decide +kernel⟩
theorem mv_X12_begins : MV yX12_begins := ⟨gw_tb 1461 (by decide +kernel) rfl, gw_pr 79 (q := (yX12_begins, 92)) (by decide +kernel) rfl⟩
theorem mb_X12_bits : MB yX12_bits cX12_bits 5 (some .int) 2 := ⟨gw_tb 16 (by decide +kernel) rfl, gw_tb 1621 (by decide +kernel) rfl, by decide +kernel, by decide +kernel, by decide +kernel⟩
theorem mv_X12_bits : MV yX12_bits := ⟨gw_tb 1620 (by decide +kernel) rfl, gw_pr 102 (q := (yX12_bits, 92)) (by decide +kernel) rfl⟩
theorem mb_X12_bounded : MB yX12_bounded cX12_bounded 4 (some .int) 2 := ⟨gw_tb 16 (by decide +kernel) rfl, gw_tb 1376 (by decide +kernel) rfl, by decide +kernel, by decide +kernel, by decide +kernel⟩
theorem mv_X12_bounded : MV yX12_bounded := ⟨gw_tb 1375 (by decide +kernel) rfl, gw_pr 59 (q := (yX12_bounded, 92)) (by decide +kernel) rfl⟩
theorem mb_X12_breaks : MB yX12_breaks cX12_breaks 3 none 1 := ⟨gw_tb 16 (by decide +kernel) rfl, gw_tb 1689 (by decide +kernel) rfl, by decide +kernel, by decide +kernel, by decide +kernel⟩
theorem mv_X12_breaks : MV yX12_breaks := ⟨gw_tb 1688 (by decide +kernel) rfl, gw_pr 110 (q := (yX12_breaks, 92)) (by decide +kernel) rfl⟩
theorem mb_X12_byteAt : MB yX12_byteAt cX12_byteAt 2 (some .int) 1 := ⟨gw_tb 16 (by decide +kernel) rfl, gw_tb 1342 (by decide +kernel) rfl, by decide +kernel, by decide +kernel, by decide +kernel⟩
theorem mv_X12_byteAt : MV yX12_byteAt := ⟨gw_tb 1341 (by decide +kernel) rfl, gw_pr 52 (q := (yX12_byteAt, 92)) (by decide +kernel) rfl⟩
theorem mb_X12_canSeat : MB yX12_canSeat cX12_canSeat 3 (some .boolean) 2 := ⟨gw_tb 16 (by decide +kernel) rfl, gw_tb 1605 (by decide +kernel) rfl, by decide +kernel, by decide +kernel, by decide +kernel⟩
theorem mv_X12_canSeat : MV yX12_canSeat := ⟨gw_tb 1604 (by decide +kernel) rfl, gw_pr 98 (q := (yX12_canSeat, 92)) (by decide +kernel) rfl⟩
theorem mb_X12_canSuspect : MB yX12_canSuspect cX12_canSuspect 3 (some .boolean) 2 := ⟨gw_tb 16 (by decide +kernel) rfl, gw_tb 1677 (by decide +kernel) rfl, by decide +kernel, by decide +kernel, by decide +kernel⟩
theorem mv_X12_canSuspect : MV yX12_canSuspect := ⟨gw_tb 1676 (by decide +kernel) rfl, gw_pr 107 (q := (yX12_canSuspect, 92)) (by decide +kernel) rfl⟩
theorem mb_X12_clashesNow : MB yX12_clashesNow cX12_clashesNow 4 (some .int) 0 := ⟨gw_tb 16 (by decide +kernel) rfl, gw_tb 1541 (by decide +kernel) rfl, by decide +kernel, by decide +kernel, by decide +kernel⟩
theorem mv_X12_clashesNow : MV yX12_clashesNow := ⟨gw_tb 1540 (by decide +kernel) rfl, gw_pr 93 (q := (yX12_clashesNow, 92)) (by decide +kernel) rfl⟩
theorem mb_X12_closesMany : MB yX12_closesMany cX12_closesMany 3 (some .boolean) 1 := ⟨gw_tb 16 (by decide +kernel) rfl, gw_tb 1431 (by decide +kernel) rfl, by decide +kernel, by decide +kernel, by decide +kernel⟩
theorem mv_X12_closesMany : MV yX12_closesMany := ⟨gw_tb 1430 (by decide +kernel) rfl, gw_pr 72 (q := (yX12_closesMany, 92)) (by decide +kernel) rfl⟩
theorem mb_X12_comesOut : MB yX12_comesOut cX12_comesOut 3 none 1 := ⟨gw_tb 16 (by decide +kernel) rfl, gw_tb 1435 (by decide +kernel) rfl, by decide +kernel, by decide +kernel, by decide +kernel⟩
theorem mv_X12_comesOut : MV yX12_comesOut := ⟨gw_tb 1434 (by decide +kernel) rfl, gw_pr 73 (q := (yX12_comesOut, 92)) (by decide +kernel) rfl⟩
theorem mb_X12_comesTo : MB yX12_comesTo cX12_comesTo 5 (some .int) 2 := ⟨gw_tb 16 (by decide +kernel) rfl, gw_tb 1613 (by decide +kernel) rfl, by decide +kernel, by decide +kernel, by decide +kernel⟩
theorem mv_X12_comesTo : MV yX12_comesTo := ⟨gw_tb 1612 (by decide +kernel) rfl, gw_pr 100 (q := (yX12_comesTo, 92)) (by decide +kernel) rfl⟩
theorem mb_X12_condition : MB yX12_condition cX12_condition 3 none 0 := ⟨gw_tb 16 (by decide +kernel) rfl, gw_tb 1400 (by decide +kernel) rfl, by decide +kernel, by decide +kernel, by decide +kernel⟩
theorem mv_X12_condition : MV yX12_condition := ⟨gw_tb 1399 (by decide +kernel) rfl, gw_pr 65 (q := (yX12_condition, 92)) (by decide +kernel) rfl⟩
theorem mb_X12_cut : MB yX12_cut cX12_cut 8 none 0 := ⟨gw_tb 16 (by decide +kernel) rfl, gw_tb 1338 (by decide +kernel) rfl, by decide +kernel, by decide +kernel, by decide +kernel⟩
theorem mv_X12_cut : MV yX12_cut := ⟨gw_tb 1337 (by decide +kernel) rfl, gw_pr 51 (q := (yX12_cut, 92)) (by decide +kernel) rfl⟩
theorem mb_X12_emit : MB yX12_emit cX12_emit 3 none 2 := ⟨gw_tb 16 (by decide +kernel) rfl, gw_tb 1424 (by decide +kernel) rfl, by decide +kernel, by decide +kernel, by decide +kernel⟩
theorem mv_X12_emit : MV yX12_emit := ⟨gw_tb 1423 (by decide +kernel) rfl, gw_pr 71 (q := (yX12_emit, 92)) (by decide +kernel) rfl⟩
theorem mb_X12_expression : MB yX12_expression cX12_expression 4 none 0 := ⟨gw_tb 16 (by decide +kernel) rfl, gw_tb 1408 (by decide +kernel) rfl, by decide +kernel, by decide +kernel, by decide +kernel⟩
theorem mv_X12_expression : MV yX12_expression := ⟨gw_tb 1407 (by decide +kernel) rfl, gw_pr 67 (q := (yX12_expression, 92)) (by decide +kernel) rfl⟩
theorem mb_X12_fail : MB yX12_fail cX12_fail 2 none 1 := ⟨gw_tb 16 (by decide +kernel) rfl, gw_tb 1372 (by decide +kernel) rfl, by decide +kernel, by decide +kernel, by decide +kernel⟩
theorem mv_X12_fail : MV yX12_fail := ⟨gw_tb 1371 (by decide +kernel) rfl, gw_pr 58 (q := (yX12_fail, 92)) (by decide +kernel) rfl⟩
theorem mb_X12_fillEvery : MB yX12_fillEvery cX12_fillEvery 7 none 3 := ⟨gw_tb 16 (by decide +kernel) rfl, gw_tb 1644 (by decide +kernel) rfl, by decide +kernel, by decide +kernel, by decide +kernel⟩
theorem mv_X12_fillEvery : MV yX12_fillEvery := ⟨gw_tb 1643 (by decide +kernel) rfl, gw_pr 104 (q := (yX12_fillEvery, 92)) (by decide +kernel) rfl⟩
theorem mb_X12_fillSuspects : MB yX12_fillSuspects cX12_fillSuspects 4 none 2 := ⟨gw_tb 16 (by decide +kernel) rfl, gw_tb 1681 (by decide +kernel) rfl, by decide +kernel, by decide +kernel, by decide +kernel⟩
theorem mv_X12_fillSuspects : MV yX12_fillSuspects := ⟨gw_tb 1680 (by decide +kernel) rfl, gw_pr 108 (q := (yX12_fillSuspects, 92)) (by decide +kernel) rfl⟩
theorem mb_X12_fits : MB yX12_fits cX12_fits 7 (some .boolean) 2 := ⟨gw_tb 16 (by decide +kernel) rfl, gw_tb 1685 (by decide +kernel) rfl, by decide +kernel, by decide +kernel, by decide +kernel⟩
theorem mv_X12_fits : MV yX12_fits := ⟨gw_tb 1684 (by decide +kernel) rfl, gw_pr 109 (q := (yX12_fits, 92)) (by decide +kernel) rfl⟩
theorem mb_X12_follows : MB yX12_follows cX12_follows 5 none 1 := ⟨gw_tb 16 (by decide +kernel) rfl, gw_tb 1652 (by decide +kernel) rfl, by decide +kernel, by decide +kernel, by decide +kernel⟩
theorem mv_X12_follows : MV yX12_follows := ⟨gw_tb 1651 (by decide +kernel) rfl, gw_pr 106 (q := (yX12_follows, 92)) (by decide +kernel) rfl⟩
theorem mb_X12_gap : MB yX12_gap cX12_gap 4 (some .int) 2 := ⟨gw_tb 16 (by decide +kernel) rfl, gw_tb 1529 (by decide +kernel) rfl, by decide +kernel, by decide +kernel, by decide +kernel⟩
theorem mv_X12_gap : MV yX12_gap := ⟨gw_tb 1528 (by decide +kernel) rfl, gw_pr 92 (q := (yX12_gap, 92)) (by decide +kernel) rfl⟩
theorem mb_X12_goesOn : MB yX12_goesOn cX12_goesOn 1 none 0 := ⟨gw_tb 16 (by decide +kernel) rfl, gw_tb 1368 (by decide +kernel) rfl, by decide +kernel, by decide +kernel, by decide +kernel⟩
theorem mv_X12_goesOn : MV yX12_goesOn := ⟨gw_tb 1367 (by decide +kernel) rfl, gw_pr 57 (q := (yX12_goesOn, 92)) (by decide +kernel) rfl⟩
theorem mb_X12_greater : MB yX12_greater cX12_greater 2 (some .int) 1 := ⟨gw_tb 16 (by decide +kernel) rfl, gw_tb 1701 (by decide +kernel) rfl, by decide +kernel, by decide +kernel, by decide +kernel⟩
theorem mv_X12_greater : MV yX12_greater := ⟨gw_tb 1700 (by decide +kernel) rfl, gw_pr 111 (q := (yX12_greater, 92)) (by decide +kernel) rfl⟩
theorem mb_X12_heard : MB yX12_heard cX12_heard 3 (some .int) 2 := ⟨gw_tb 16 (by decide +kernel) rfl, gw_tb 1493 (by decide +kernel) rfl, by decide +kernel, by decide +kernel, by decide +kernel⟩
theorem mv_X12_heard : MV yX12_heard := ⟨gw_tb 1492 (by decide +kernel) rfl, gw_pr 84 (q := (yX12_heard, 92)) (by decide +kernel) rfl⟩
theorem mb_X12_holds : MB yX12_holds cX12_holds 4 (some .boolean) 1 := ⟨gw_tb 16 (by decide +kernel) rfl, gw_tb 1517 (by decide +kernel) rfl, by decide +kernel, by decide +kernel, by decide +kernel⟩
theorem mv_X12_holds : MV yX12_holds := ⟨gw_tb 1516 (by decide +kernel) rfl, gw_pr 89 (q := (yX12_holds, 92)) (by decide +kernel) rfl⟩
theorem mb_X12_in : MB yX12_in cX12_in 3 (some .boolean) 3 := ⟨gw_tb 16 (by decide +kernel) rfl, gw_tb 1481 (by decide +kernel) rfl, by decide +kernel, by decide +kernel, by decide +kernel⟩
theorem ms_X12_in : Cond.static yX12_in ∈ gw := gw_tb 1480 (by decide +kernel) rfl
theorem mb_X12_is : MB yX12_is cX12_is 2 (some .boolean) 1 := ⟨gw_tb 16 (by decide +kernel) rfl, gw_tb 1360 (by decide +kernel) rfl, by decide +kernel, by decide +kernel, by decide +kernel⟩
theorem mv_X12_is : MV yX12_is := ⟨gw_tb 1359 (by decide +kernel) rfl, gw_pr 55 (q := (yX12_is, 92)) (by decide +kernel) rfl⟩
theorem mb_X12_isAt : MB yX12_isAt cX12_isAt 3 (some .boolean) 1 := ⟨gw_tb 16 (by decide +kernel) rfl, gw_tb 1581 (by decide +kernel) rfl, by decide +kernel, by decide +kernel, by decide +kernel⟩
theorem mv_X12_isAt : MV yX12_isAt := ⟨gw_tb 1580 (by decide +kernel) rfl, gw_pr 97 (q := (yX12_isAt, 92)) (by decide +kernel) rfl⟩
theorem mb_X12_isBench : MB yX12_isBench cX12_isBench 2 (some .boolean) 1 := ⟨gw_tb 16 (by decide +kernel) rfl, gw_tb 1478 (by decide +kernel) rfl, by decide +kernel, by decide +kernel, by decide +kernel⟩
theorem mv_X12_isBench : MV yX12_isBench := ⟨gw_tb 1477 (by decide +kernel) rfl, gw_pr 81 (q := (yX12_isBench, 92)) (by decide +kernel) rfl⟩
theorem mb_X12_isBetter : MB yX12_isBetter cX12_isBetter 3 (some .boolean) 3 := ⟨gw_tb 16 (by decide +kernel) rfl, gw_tb 1624 (by decide +kernel) rfl, by decide +kernel, by decide +kernel, by decide +kernel⟩
theorem ms_X12_isBetter : Cond.static yX12_isBetter ∈ gw := gw_tb 1623 (by decide +kernel) rfl
theorem mb_X12_isDigit : MB yX12_isDigit cX12_isDigit 1 (some .boolean) 1 := ⟨gw_tb 16 (by decide +kernel) rfl, gw_tb 1352 (by decide +kernel) rfl, by decide +kernel, by decide +kernel, by decide +kernel⟩
theorem ms_X12_isDigit : Cond.static yX12_isDigit ∈ gw := gw_tb 1351 (by decide +kernel) rfl
theorem mb_X12_isFog : MB yX12_isFog cX12_isFog 3 (some .boolean) 1 := ⟨gw_tb 16 (by decide +kernel) rfl, gw_tb 1489 (by decide +kernel) rfl, by decide +kernel, by decide +kernel, by decide +kernel⟩
theorem mv_X12_isFog : MV yX12_isFog := ⟨gw_tb 1488 (by decide +kernel) rfl, gw_pr 83 (q := (yX12_isFog, 92)) (by decide +kernel) rfl⟩
theorem mb_X12_isLetter : MB yX12_isLetter cX12_isLetter 1 (some .boolean) 1 := ⟨gw_tb 16 (by decide +kernel) rfl, gw_tb 1349 (by decide +kernel) rfl, by decide +kernel, by decide +kernel, by decide +kernel⟩
theorem ms_X12_isLetter : Cond.static yX12_isLetter ∈ gw := gw_tb 1348 (by decide +kernel) rfl
theorem mb_X12_isStill : MB yX12_isStill cX12_isStill 3 (some .boolean) 0 := ⟨gw_tb 16 (by decide +kernel) rfl, gw_tb 1573 (by decide +kernel) rfl, by decide +kernel, by decide +kernel, by decide +kernel⟩
theorem mv_X12_isStill : MV yX12_isStill := ⟨gw_tb 1572 (by decide +kernel) rfl, gw_pr 96 (q := (yX12_isStill, 92)) (by decide +kernel) rfl⟩
theorem mb_X12_isTrue : MB yX12_isTrue cX12_isTrue 5 (some .boolean) 1 := ⟨gw_tb 16 (by decide +kernel) rfl, gw_tb 1521 (by decide +kernel) rfl, by decide +kernel, by decide +kernel, by decide +kernel⟩
theorem mv_X12_isTrue : MV yX12_isTrue := ⟨gw_tb 1520 (by decide +kernel) rfl, gw_pr 90 (q := (yX12_isTrue, 92)) (by decide +kernel) rfl⟩
theorem mb_X12_isWall : MB yX12_isWall cX12_isWall 1 (some .boolean) 1 := ⟨gw_tb 16 (by decide +kernel) rfl, gw_tb 1438 (by decide +kernel) rfl, by decide +kernel, by decide +kernel, by decide +kernel⟩
theorem ms_X12_isWall : Cond.static yX12_isWall ∈ gw := gw_tb 1437 (by decide +kernel) rfl
theorem mb_X12_literal : MB yX12_literal cX12_literal 6 none 1 := ⟨gw_tb 16 (by decide +kernel) rfl, gw_tb 1404 (by decide +kernel) rfl, by decide +kernel, by decide +kernel, by decide +kernel⟩
theorem mv_X12_literal : MV yX12_literal := ⟨gw_tb 1403 (by decide +kernel) rfl, gw_pr 66 (q := (yX12_literal, 92)) (by decide +kernel) rfl⟩
theorem mb_X12_menNow : MB yX12_menNow cX12_menNow 1 (some .int) 0 := ⟨gw_tb 16 (by decide +kernel) rfl, gw_tb 1466 (by decide +kernel) rfl, by decide +kernel, by decide +kernel, by decide +kernel⟩
theorem mv_X12_menNow : MV yX12_menNow := ⟨gw_tb 1465 (by decide +kernel) rfl, gw_pr 80 (q := (yX12_menNow, 92)) (by decide +kernel) rfl⟩
theorem mb_X12_must : MB yX12_must cX12_must 2 none 1 := ⟨gw_tb 16 (by decide +kernel) rfl, gw_tb 1384 (by decide +kernel) rfl, by decide +kernel, by decide +kernel, by decide +kernel⟩
theorem mv_X12_must : MV yX12_must := ⟨gw_tb 1383 (by decide +kernel) rfl, gw_pr 61 (q := (yX12_must, 92)) (by decide +kernel) rfl⟩
theorem mb_X12_named : MB yX12_named cX12_named 3 (some .int) 0 := ⟨gw_tb 16 (by decide +kernel) rfl, gw_tb 1396 (by decide +kernel) rfl, by decide +kernel, by decide +kernel, by decide +kernel⟩
theorem mv_X12_named : MV yX12_named := ⟨gw_tb 1395 (by decide +kernel) rfl, gw_pr 64 (q := (yX12_named, 92)) (by decide +kernel) rfl⟩
theorem mb_X12_nearTo : MB yX12_nearTo cX12_nearTo 4 (some .int) 1 := ⟨gw_tb 16 (by decide +kernel) rfl, gw_tb 1553 (by decide +kernel) rfl, by decide +kernel, by decide +kernel, by decide +kernel⟩
theorem mv_X12_nearTo : MV yX12_nearTo := ⟨gw_tb 1552 (by decide +kernel) rfl, gw_pr 95 (q := (yX12_nearTo, 92)) (by decide +kernel) rfl⟩
theorem mb_X12_nextOrder : MB yX12_nextOrder cX12_nextOrder 6 (some .boolean) 0 := ⟨gw_tb 16 (by decide +kernel) rfl, gw_tb 1628 (by decide +kernel) rfl, by decide +kernel, by decide +kernel, by decide +kernel⟩
theorem mv_X12_nextOrder : MV yX12_nextOrder := ⟨gw_tb 1627 (by decide +kernel) rfl, gw_pr 103 (q := (yX12_nextOrder, 92)) (by decide +kernel) rfl⟩
theorem mb_X12_notes : MB yX12_notes cX12_notes 3 none 2 := ⟨gw_tb 16 (by decide +kernel) rfl, gw_tb 1446 (by decide +kernel) rfl, by decide +kernel, by decide +kernel, by decide +kernel⟩
theorem mv_X12_notes : MV yX12_notes := ⟨gw_tb 1445 (by decide +kernel) rfl, gw_pr 75 (q := (yX12_notes, 92)) (by decide +kernel) rfl⟩
theorem mb_X12_numberOf : MB yX12_numberOf cX12_numberOf 4 (some .int) 1 := ⟨gw_tb 16 (by decide +kernel) rfl, gw_tb 1648 (by decide +kernel) rfl, by decide +kernel, by decide +kernel, by decide +kernel⟩
theorem mv_X12_numberOf : MV yX12_numberOf := ⟨gw_tb 1647 (by decide +kernel) rfl, gw_pr 105 (q := (yX12_numberOf, 92)) (by decide +kernel) rfl⟩
theorem mb_X12_opensMany : MB yX12_opensMany cX12_opensMany 2 none 0 := ⟨gw_tb 16 (by decide +kernel) rfl, gw_tb 1412 (by decide +kernel) rfl, by decide +kernel, by decide +kernel, by decide +kernel⟩
theorem mv_X12_opensMany : MV yX12_opensMany := ⟨gw_tb 1411 (by decide +kernel) rfl, gw_pr 68 (q := (yX12_opensMany, 92)) (by decide +kernel) rfl⟩
theorem mb_X12_part : MB yX12_part cX12_part 3 (some .int) 0 := ⟨gw_tb 16 (by decide +kernel) rfl, gw_tb 1454 (by decide +kernel) rfl, by decide +kernel, by decide +kernel, by decide +kernel⟩
theorem mv_X12_part : MV yX12_part := ⟨gw_tb 1453 (by decide +kernel) rfl, gw_pr 77 (q := (yX12_part, 92)) (by decide +kernel) rfl⟩
theorem mb_X12_pushes : MB yX12_pushes cX12_pushes 2 none 1 := ⟨gw_tb 16 (by decide +kernel) rfl, gw_tb 1416 (by decide +kernel) rfl, by decide +kernel, by decide +kernel, by decide +kernel⟩
theorem mv_X12_pushes : MV yX12_pushes := ⟨gw_tb 1415 (by decide +kernel) rfl, gw_pr 69 (q := (yX12_pushes, 92)) (by decide +kernel) rfl⟩
theorem mb_X12_put : MB yX12_put cX12_put 3 none 1 := ⟨gw_tb 16 (by decide +kernel) rfl, gw_tb 1326 (by decide +kernel) rfl, by decide +kernel, by decide +kernel, by decide +kernel⟩
theorem mv_X12_put : MV yX12_put := ⟨gw_tb 1325 (by decide +kernel) rfl, gw_pr 50 (q := (yX12_put, 92)) (by decide +kernel) rfl⟩
theorem mb_X12_rest : MB yX12_rest cX12_rest 3 (some .int) 1 := ⟨gw_tb 16 (by decide +kernel) rfl, gw_tb 1497 (by decide +kernel) rfl, by decide +kernel, by decide +kernel, by decide +kernel⟩
theorem mv_X12_rest : MV yX12_rest := ⟨gw_tb 1496 (by decide +kernel) rfl, gw_pr 85 (q := (yX12_rest, 92)) (by decide +kernel) rfl⟩
theorem mb_X12_roomFor : MB yX12_roomFor cX12_roomFor 3 none 2 := ⟨gw_tb 16 (by decide +kernel) rfl, gw_tb 1388 (by decide +kernel) rfl, by decide +kernel, by decide +kernel, by decide +kernel⟩
theorem mv_X12_roomFor : MV yX12_roomFor := ⟨gw_tb 1387 (by decide +kernel) rfl, gw_pr 62 (q := (yX12_roomFor, 92)) (by decide +kernel) rfl⟩
theorem mb_X12_rowsBy : MB yX12_rowsBy cX12_rowsBy 7 (some .int) 2 := ⟨gw_tb 16 (by decide +kernel) rfl, gw_tb 1513 (by decide +kernel) rfl, by decide +kernel, by decide +kernel, by decide +kernel⟩
theorem mv_X12_rowsBy : MV yX12_rowsBy := ⟨gw_tb 1512 (by decide +kernel) rfl, gw_pr 88 (q := (yX12_rowsBy, 92)) (by decide +kernel) rfl⟩
theorem mb_X12_seats : MB yX12_seats cX12_seats 8 (some .int) 2 := ⟨gw_tb 16 (by decide +kernel) rfl, gw_tb 1609 (by decide +kernel) rfl, by decide +kernel, by decide +kernel, by decide +kernel⟩
theorem mv_X12_seats : MV yX12_seats := ⟨gw_tb 1608 (by decide +kernel) rfl, gw_pr 99 (q := (yX12_seats, 92)) (by decide +kernel) rfl⟩
theorem mb_X12_sign : MB yX12_sign cX12_sign 6 (some .int) 3 := ⟨gw_tb 16 (by decide +kernel) rfl, gw_tb 1356 (by decide +kernel) rfl, by decide +kernel, by decide +kernel, by decide +kernel⟩
theorem mv_X12_sign : MV yX12_sign := ⟨gw_tb 1355 (by decide +kernel) rfl, gw_pr 54 (q := (yX12_sign, 92)) (by decide +kernel) rfl⟩
theorem mb_X12_sits : MB yX12_sits cX12_sits 2 none 0 := ⟨gw_tb 16 (by decide +kernel) rfl, gw_tb 1617 (by decide +kernel) rfl, by decide +kernel, by decide +kernel, by decide +kernel⟩
theorem mv_X12_sits : MV yX12_sits := ⟨gw_tb 1616 (by decide +kernel) rfl, gw_pr 101 (q := (yX12_sits, 92)) (by decide +kernel) rfl⟩
theorem mb_X12_strikes : MB yX12_strikes cX12_strikes 3 none 1 := ⟨gw_tb 16 (by decide +kernel) rfl, gw_tb 1509 (by decide +kernel) rfl, by decide +kernel, by decide +kernel, by decide +kernel⟩
theorem mv_X12_strikes : MV yX12_strikes := ⟨gw_tb 1508 (by decide +kernel) rfl, gw_pr 87 (q := (yX12_strikes, 92)) (by decide +kernel) rfl⟩
theorem mb_X12_takes : MB yX12_takes cX12_takes 2 none 0 := ⟨gw_tb 16 (by decide +kernel) rfl, gw_tb 1485 (by decide +kernel) rfl, by decide +kernel, by decide +kernel, by decide +kernel⟩
theorem mv_X12_takes : MV yX12_takes := ⟨gw_tb 1484 (by decide +kernel) rfl, gw_pr 82 (q := (yX12_takes, 92)) (by decide +kernel) rfl⟩
theorem mb_X12_tell : MB yX12_tell cX12_tell 1 none 0 := ⟨gw_tb 16 (by decide +kernel) rfl, gw_tb 1364 (by decide +kernel) rfl, by decide +kernel, by decide +kernel, by decide +kernel⟩
theorem mv_X12_tell : MV yX12_tell := ⟨gw_tb 1363 (by decide +kernel) rfl, gw_pr 56 (q := (yX12_tell, 92)) (by decide +kernel) rfl⟩
theorem mb_X12_tellFog : MB yX12_tellFog cX12_tellFog 2 none 0 := ⟨gw_tb 16 (by decide +kernel) rfl, gw_tb 1458 (by decide +kernel) rfl, by decide +kernel, by decide +kernel, by decide +kernel⟩
theorem mv_X12_tellFog : MV yX12_tellFog := ⟨gw_tb 1457 (by decide +kernel) rfl, gw_pr 78 (q := (yX12_tellFog, 92)) (by decide +kernel) rfl⟩
theorem mb_X12_tellLaw : MB yX12_tellLaw cX12_tellLaw 4 none 0 := ⟨gw_tb 16 (by decide +kernel) rfl, gw_tb 1392 (by decide +kernel) rfl, by decide +kernel, by decide +kernel, by decide +kernel⟩
theorem mv_X12_tellLaw : MV yX12_tellLaw := ⟨gw_tb 1391 (by decide +kernel) rfl, gw_pr 63 (q := (yX12_tellLaw, 92)) (by decide +kernel) rfl⟩
theorem mb_X12_tellMan : MB yX12_tellMan cX12_tellMan 5 none 0 := ⟨gw_tb 16 (by decide +kernel) rfl, gw_tb 1450 (by decide +kernel) rfl, by decide +kernel, by decide +kernel, by decide +kernel⟩
theorem mv_X12_tellMan : MV yX12_tellMan := ⟨gw_tb 1449 (by decide +kernel) rfl, gw_pr 76 (q := (yX12_tellMan, 92)) (by decide +kernel) rfl⟩
theorem mb_X12_term : MB yX12_term cX12_term 1 none 0 := ⟨gw_tb 16 (by decide +kernel) rfl, gw_tb 1442 (by decide +kernel) rfl, by decide +kernel, by decide +kernel, by decide +kernel⟩
theorem mv_X12_term : MV yX12_term := ⟨gw_tb 1441 (by decide +kernel) rfl, gw_pr 74 (q := (yX12_term, 92)) (by decide +kernel) rfl⟩
theorem mb_X12_termOf : MB yX12_termOf cX12_termOf 8 (some .int) 2 := ⟨gw_tb 16 (by decide +kernel) rfl, gw_tb 1525 (by decide +kernel) rfl, by decide +kernel, by decide +kernel, by decide +kernel⟩
theorem mv_X12_termOf : MV yX12_termOf := ⟨gw_tb 1524 (by decide +kernel) rfl, gw_pr 91 (q := (yX12_termOf, 92)) (by decide +kernel) rfl⟩
theorem mb_X12_token : MB yX12_token cX12_token 6 none 4 := ⟨gw_tb 16 (by decide +kernel) rfl, gw_tb 1346 (by decide +kernel) rfl, by decide +kernel, by decide +kernel, by decide +kernel⟩
theorem mv_X12_token : MV yX12_token := ⟨gw_tb 1345 (by decide +kernel) rfl, gw_pr 53 (q := (yX12_token, 92)) (by decide +kernel) rfl⟩
theorem mb_X12_unit : MB yX12_unit cX12_unit 2 none 0 := ⟨gw_tb 16 (by decide +kernel) rfl, gw_tb 1420 (by decide +kernel) rfl, by decide +kernel, by decide +kernel, by decide +kernel⟩
theorem mv_X12_unit : MV yX12_unit := ⟨gw_tb 1419 (by decide +kernel) rfl, gw_pr 70 (q := (yX12_unit, 92)) (by decide +kernel) rfl⟩
theorem mb_X12_variableOf : MB yX12_variableOf cX12_variableOf 1 (some .int) 1 := ⟨gw_tb 16 (by decide +kernel) rfl, gw_tb 1427 (by decide +kernel) rfl, by decide +kernel, by decide +kernel, by decide +kernel⟩
theorem ms_X12_variableOf : Cond.static yX12_variableOf ∈ gw := gw_tb 1426 (by decide +kernel) rfl
theorem mb_X12_wayNow : MB yX12_wayNow cX12_wayNow 3 (some .int) 0 := ⟨gw_tb 16 (by decide +kernel) rfl, gw_tb 1549 (by decide +kernel) rfl, by decide +kernel, by decide +kernel, by decide +kernel⟩
theorem mv_X12_wayNow : MV yX12_wayNow := ⟨gw_tb 1548 (by decide +kernel) rfl, gw_pr 94 (q := (yX12_wayNow, 92)) (by decide +kernel) rfl⟩
theorem mb_X12_wrong : MB yX12_wrong cX12_wrong 4 none 2 := ⟨gw_tb 16 (by decide +kernel) rfl, gw_tb 1380 (by decide +kernel) rfl, by decide +kernel, by decide +kernel, by decide +kernel⟩
theorem mv_X12_wrong : MV yX12_wrong := ⟨gw_tb 1379 (by decide +kernel) rfl, gw_pr 60 (q := (yX12_wrong, 92)) (by decide +kernel) rfl⟩
theorem mb_X1_exchange : MB yX1_exchange cX1_exchange 6 none 2 := ⟨gw_tb 10 (by decide +kernel) rfl, gw_tb 810 (by decide +kernel) rfl, by decide +kernel, by decide +kernel, by decide +kernel⟩
theorem mv_X1_exchange : MV yX1_exchange := ⟨gw_tb 808 (by decide +kernel) rfl, gw_tb 809 (by decide +kernel) rfl⟩
theorem mb_X1_take : MB yX1_take cX1_take 2 none 1 := ⟨gw_tb 10 (by decide +kernel) rfl, gw_tb 1012 (by decide +kernel) rfl, by decide +kernel, by decide +kernel, by decide +kernel⟩
theorem mv_X1_take : MV yX1_take := ⟨gw_tb 1010 (by decide +kernel) rfl, gw_tb 1011 (by decide +kernel) rfl⟩
theorem mb_X3_clear : MB yX3_clear cX3_clear 1 none 0 := ⟨gw_tb 11 (by decide +kernel) rfl, gw_tb 662 (by decide +kernel) rfl, by decide +kernel, by decide +kernel, by decide +kernel⟩
theorem mv_X3_clear : MV yX3_clear := ⟨gw_tb 660 (by decide +kernel) rfl, gw_tb 661 (by decide +kernel) rfl⟩
theorem mb_X3_keep : MB yX3_keep cX3_keep 3 none 1 := ⟨gw_tb 11 (by decide +kernel) rfl, gw_tb 693 (by decide +kernel) rfl, by decide +kernel, by decide +kernel, by decide +kernel⟩
theorem mv_X3_keep : MV yX3_keep := ⟨gw_tb 691 (by decide +kernel) rfl, gw_tb 692 (by decide +kernel) rfl⟩
theorem mb_X3_takeLast : MB yX3_takeLast cX3_takeLast 1 (some .long) 0 := ⟨gw_tb 11 (by decide +kernel) rfl, gw_tb 729 (by decide +kernel) rfl, by decide +kernel, by decide +kernel, by decide +kernel⟩
theorem mv_X3_takeLast : MV yX3_takeLast := ⟨gw_tb 727 (by decide +kernel) rfl, gw_tb 728 (by decide +kernel) rfl⟩
theorem mb_X4_begin : MB yX4_begin cX4_begin 3 none 2 := ⟨gw_tb 3 (by decide +kernel) rfl, gw_tb 510 (by decide +kernel) rfl, by decide +kernel, by decide +kernel, by decide +kernel⟩
theorem mv_X4_begin : MV yX4_begin := ⟨gw_tb 509 (by decide +kernel) rfl, gw_pr 1 (q := (yX4_begin, 12)) (by decide +kernel) rfl⟩
theorem mb_X4_emit : MB yX4_emit cX4_emit 4 (some .int) 2 := ⟨gw_tb 3 (by decide +kernel) rfl, gw_tb 608 (by decide +kernel) rfl, by decide +kernel, by decide +kernel, by decide +kernel⟩
theorem mv_X4_emit : MV yX4_emit := ⟨gw_tb 607 (by decide +kernel) rfl, gw_pr 19 (q := (yX4_emit, 12)) (by decide +kernel) rfl⟩
theorem mb_X4_fail : MB yX4_fail cX4_fail 2 none 1 := ⟨gw_tb 3 (by decide +kernel) rfl, gw_tb 584 (by decide +kernel) rfl, by decide +kernel, by decide +kernel, by decide +kernel⟩
theorem mv_X4_fail : MV yX4_fail := ⟨gw_tb 583 (by decide +kernel) rfl, gw_pr 13 (q := (yX4_fail, 12)) (by decide +kernel) rfl⟩
theorem mb_X4_joinsAt : MB yX4_joinsAt cX4_joinsAt 2 (some .boolean) 2 := ⟨gw_tb 3 (by decide +kernel) rfl, gw_tb 611 (by decide +kernel) rfl, by decide +kernel, by decide +kernel, by decide +kernel⟩
theorem ms_X4_joinsAt : Cond.static yX4_joinsAt ∈ gw := gw_tb 610 (by decide +kernel) rfl
theorem mb_X4_land : MB yX4_land cX4_land 2 none 1 := ⟨gw_tb 3 (by decide +kernel) rfl, gw_tb 619 (by decide +kernel) rfl, by decide +kernel, by decide +kernel, by decide +kernel⟩
theorem mv_X4_land : MV yX4_land := ⟨gw_tb 618 (by decide +kernel) rfl, gw_pr 21 (q := (yX4_land, 12)) (by decide +kernel) rfl⟩
theorem mb_X4_landChain : MB yX4_landChain cX4_landChain 5 none 1 := ⟨gw_tb 3 (by decide +kernel) rfl, gw_tb 615 (by decide +kernel) rfl, by decide +kernel, by decide +kernel, by decide +kernel⟩
theorem mv_X4_landChain : MV yX4_landChain := ⟨gw_tb 614 (by decide +kernel) rfl, gw_pr 20 (q := (yX4_landChain, 12)) (by decide +kernel) rfl⟩
theorem mb_X4_lawNamed : MB yX4_lawNamed cX4_lawNamed 4 (some .int) 1 := ⟨gw_tb 3 (by decide +kernel) rfl, gw_tb 627 (by decide +kernel) rfl, by decide +kernel, by decide +kernel, by decide +kernel⟩
theorem mv_X4_lawNamed : MV yX4_lawNamed := ⟨gw_tb 626 (by decide +kernel) rfl, gw_pr 23 (q := (yX4_lawNamed, 12)) (by decide +kernel) rfl⟩
theorem mb_X4_noteBeyond : MB yX4_noteBeyond cX4_noteBeyond 2 none 0 := ⟨gw_tb 3 (by decide +kernel) rfl, gw_tb 631 (by decide +kernel) rfl, by decide +kernel, by decide +kernel, by decide +kernel⟩
theorem mv_X4_noteBeyond : MV yX4_noteBeyond := ⟨gw_tb 630 (by decide +kernel) rfl, gw_pr 24 (q := (yX4_noteBeyond, 12)) (by decide +kernel) rfl⟩
theorem mb_X4_noteName : MB yX4_noteName cX4_noteName 3 none 1 := ⟨gw_tb 3 (by decide +kernel) rfl, gw_tb 588 (by decide +kernel) rfl, by decide +kernel, by decide +kernel, by decide +kernel⟩
theorem mv_X4_noteName : MV yX4_noteName := ⟨gw_tb 587 (by decide +kernel) rfl, gw_pr 14 (q := (yX4_noteName, 12)) (by decide +kernel) rfl⟩
theorem mb_X4_readCondition : MB yX4_readCondition cX4_readCondition 4 none 0 := ⟨gw_tb 3 (by decide +kernel) rfl, gw_tb 592 (by decide +kernel) rfl, by decide +kernel, by decide +kernel, by decide +kernel⟩
theorem mv_X4_readCondition : MV yX4_readCondition := ⟨gw_tb 591 (by decide +kernel) rfl, gw_pr 15 (q := (yX4_readCondition, 12)) (by decide +kernel) rfl⟩
theorem mb_X4_readDrum : MB yX4_readDrum cX4_readDrum 1 none 0 := ⟨gw_tb 3 (by decide +kernel) rfl, gw_tb 640 (by decide +kernel) rfl, by decide +kernel, by decide +kernel, by decide +kernel⟩
theorem mv_X4_readDrum : MV yX4_readDrum := ⟨gw_tb 639 (by decide +kernel) rfl, gw_pr 25 (q := (yX4_readDrum, 12)) (by decide +kernel) rfl⟩
theorem mb_X4_readExpression : MB yX4_readExpression cX4_readExpression 5 none 2 := ⟨gw_tb 3 (by decide +kernel) rfl, gw_tb 600 (by decide +kernel) rfl, by decide +kernel, by decide +kernel, by decide +kernel⟩
theorem mv_X4_readExpression : MV yX4_readExpression := ⟨gw_tb 599 (by decide +kernel) rfl, gw_pr 17 (q := (yX4_readExpression, 12)) (by decide +kernel) rfl⟩
theorem mb_X4_readFog : MB yX4_readFog cX4_readFog 1 none 0 := ⟨gw_tb 3 (by decide +kernel) rfl, gw_tb 649 (by decide +kernel) rfl, by decide +kernel, by decide +kernel, by decide +kernel⟩
theorem mv_X4_readFog : MV yX4_readFog := ⟨gw_tb 648 (by decide +kernel) rfl, gw_pr 27 (q := (yX4_readFog, 12)) (by decide +kernel) rfl⟩
theorem mb_X4_readLaw : MB yX4_readLaw cX4_readLaw 3 none 0 := ⟨gw_tb 3 (by decide +kernel) rfl, gw_tb 580 (by decide +kernel) rfl, by decide +kernel, by decide +kernel, by decide +kernel⟩
theorem mv_X4_readLaw : MV yX4_readLaw := ⟨gw_tb 579 (by decide +kernel) rfl, gw_pr 12 (q := (yX4_readLaw, 12)) (by decide +kernel) rfl⟩
theorem mb_X4_readMan : MB yX4_readMan cX4_readMan 1 none 0 := ⟨gw_tb 3 (by decide +kernel) rfl, gw_tb 623 (by decide +kernel) rfl, by decide +kernel, by decide +kernel, by decide +kernel⟩
theorem mv_X4_readMan : MV yX4_readMan := ⟨gw_tb 622 (by decide +kernel) rfl, gw_pr 22 (q := (yX4_readMan, 12)) (by decide +kernel) rfl⟩
theorem mb_X4_readParts : MB yX4_readParts cX4_readParts 1 none 0 := ⟨gw_tb 3 (by decide +kernel) rfl, gw_tb 562 (by decide +kernel) rfl, by decide +kernel, by decide +kernel, by decide +kernel⟩
theorem mv_X4_readParts : MV yX4_readParts := ⟨gw_tb 561 (by decide +kernel) rfl, gw_pr 8 (q := (yX4_readParts, 12)) (by decide +kernel) rfl⟩
theorem mb_X4_readRelation : MB yX4_readRelation cX4_readRelation 3 none 0 := ⟨gw_tb 3 (by decide +kernel) rfl, gw_tb 596 (by decide +kernel) rfl, by decide +kernel, by decide +kernel, by decide +kernel⟩
theorem mv_X4_readRelation : MV yX4_readRelation := ⟨gw_tb 595 (by decide +kernel) rfl, gw_pr 16 (q := (yX4_readRelation, 12)) (by decide +kernel) rfl⟩
theorem mb_X4_readSong : MB yX4_readSong cX4_readSong 1 none 0 := ⟨gw_tb 3 (by decide +kernel) rfl, gw_tb 645 (by decide +kernel) rfl, by decide +kernel, by decide +kernel, by decide +kernel⟩
theorem mv_X4_readSong : MV yX4_readSong := ⟨gw_tb 644 (by decide +kernel) rfl, gw_pr 26 (q := (yX4_readSong, 12)) (by decide +kernel) rfl⟩
theorem mb_X4_readUnit : MB yX4_readUnit cX4_readUnit 3 none 1 := ⟨gw_tb 3 (by decide +kernel) rfl, gw_tb 604 (by decide +kernel) rfl, by decide +kernel, by decide +kernel, by decide +kernel⟩
theorem mv_X4_readUnit : MV yX4_readUnit := ⟨gw_tb 603 (by decide +kernel) rfl, gw_pr 18 (q := (yX4_readUnit, 12)) (by decide +kernel) rfl⟩
theorem mb_X4_slipAtTaken : MB yX4_slipAtTaken cX4_slipAtTaken 2 none 1 := ⟨gw_tb 3 (by decide +kernel) rfl, gw_tb 576 (by decide +kernel) rfl, by decide +kernel, by decide +kernel, by decide +kernel⟩
theorem mv_X4_slipAtTaken : MV yX4_slipAtTaken := ⟨gw_tb 575 (by decide +kernel) rfl, gw_pr 11 (q := (yX4_slipAtTaken, 12)) (by decide +kernel) rfl⟩
theorem mb_X4_take : MB yX4_take cX4_take 2 (some .boolean) 1 := ⟨gw_tb 3 (by decide +kernel) rfl, gw_tb 566 (by decide +kernel) rfl, by decide +kernel, by decide +kernel, by decide +kernel⟩
theorem mv_X4_take : MV yX4_take := ⟨gw_tb 565 (by decide +kernel) rfl, gw_pr 9 (q := (yX4_take, 12)) (by decide +kernel) rfl⟩
theorem mb_X4_takeLaterFault : MB yX4_takeLaterFault cX4_takeLaterFault 1 none 0 := ⟨gw_tb 3 (by decide +kernel) rfl, gw_tb 654 (by decide +kernel) rfl, by decide +kernel, by decide +kernel, by decide +kernel⟩
theorem mv_X4_takeLaterFault : MV yX4_takeLaterFault := ⟨gw_tb 653 (by decide +kernel) rfl, gw_pr 28 (q := (yX4_takeLaterFault, 12)) (by decide +kernel) rfl⟩
theorem mb_X4_taken : MB yX4_taken cX4_taken 1 (some .long) 0 := ⟨gw_tb 3 (by decide +kernel) rfl, gw_tb 570 (by decide +kernel) rfl, by decide +kernel, by decide +kernel, by decide +kernel⟩
theorem mv_X4_taken : MV yX4_taken := ⟨gw_tb 569 (by decide +kernel) rfl, gw_pr 10 (q := (yX4_taken, 12)) (by decide +kernel) rfl⟩
theorem mb_X5_clashBits : MB yX5_clashBits cX5_clashBits 6 (some .int) 1 := ⟨gw_tb 9 (by decide +kernel) rfl, gw_tb 740 (by decide +kernel) rfl, by decide +kernel, by decide +kernel, by decide +kernel⟩
theorem mv_X5_clashBits : MV yX5_clashBits := ⟨gw_tb 738 (by decide +kernel) rfl, gw_tb 739 (by decide +kernel) rfl⟩
theorem mb_X5_gap : MB yX5_gap cX5_gap 4 (some .int) 2 := ⟨gw_tb 9 (by decide +kernel) rfl, gw_tb 716 (by decide +kernel) rfl, by decide +kernel, by decide +kernel, by decide +kernel⟩
theorem mv_X5_gap : MV yX5_gap := ⟨gw_tb 714 (by decide +kernel) rfl, gw_tb 715 (by decide +kernel) rfl⟩
theorem mb_X5_gapAhead : MB yX5_gapAhead cX5_gapAhead 4 (some .int) 2 := ⟨gw_tb 9 (by decide +kernel) rfl, gw_tb 744 (by decide +kernel) rfl, by decide +kernel, by decide +kernel, by decide +kernel⟩
theorem mv_X5_gapAhead : MV yX5_gapAhead := ⟨gw_tb 743 (by decide +kernel) rfl, gw_pr 34 (q := (yX5_gapAhead, 5)) (by decide +kernel) rfl⟩
theorem mb_X5_heard : MB yX5_heard cX5_heard 5 (some .int) 4 := ⟨gw_tb 9 (by decide +kernel) rfl, gw_tb 685 (by decide +kernel) rfl, by decide +kernel, by decide +kernel, by decide +kernel⟩
theorem mv_X5_heard : MV yX5_heard := ⟨gw_tb 683 (by decide +kernel) rfl, gw_tb 684 (by decide +kernel) rfl⟩
theorem mb_X5_joined : MB yX5_joined cX5_joined 4 (some .int) 3 := ⟨gw_tb 9 (by decide +kernel) rfl, gw_tb 712 (by decide +kernel) rfl, by decide +kernel, by decide +kernel, by decide +kernel⟩
theorem mv_X5_joined : MV yX5_joined := ⟨gw_tb 711 (by decide +kernel) rfl, gw_pr 32 (q := (yX5_joined, 5)) (by decide +kernel) rfl⟩
theorem mb_X5_menNear : MB yX5_menNear cX5_menNear 4 (some .int) 1 := ⟨gw_tb 9 (by decide +kernel) rfl, gw_tb 760 (by decide +kernel) rfl, by decide +kernel, by decide +kernel, by decide +kernel⟩
theorem mv_X5_menNear : MV yX5_menNear := ⟨gw_tb 758 (by decide +kernel) rfl, gw_tb 759 (by decide +kernel) rfl⟩
theorem mb_X5_mostClashing : MB yX5_mostClashing cX5_mostClashing 8 (some .int) 2 := ⟨gw_tb 9 (by decide +kernel) rfl, gw_tb 786 (by decide +kernel) rfl, by decide +kernel, by decide +kernel, by decide +kernel⟩
theorem mv_X5_mostClashing : MV yX5_mostClashing := ⟨gw_tb 784 (by decide +kernel) rfl, gw_tb 785 (by decide +kernel) rfl⟩
theorem mb_X5_rest : MB yX5_rest cX5_rest 3 (some .int) 1 := ⟨gw_tb 9 (by decide +kernel) rfl, gw_tb 720 (by decide +kernel) rfl, by decide +kernel, by decide +kernel, by decide +kernel⟩
theorem mv_X5_rest : MV yX5_rest := ⟨gw_tb 719 (by decide +kernel) rfl, gw_pr 33 (q := (yX5_rest, 5)) (by decide +kernel) rfl⟩
theorem mb_X5_stroke : MB yX5_stroke cX5_stroke 12 (some .long) 4 := ⟨gw_tb 9 (by decide +kernel) rfl, gw_tb 698 (by decide +kernel) rfl, by decide +kernel, by decide +kernel, by decide +kernel⟩
theorem mv_X5_stroke : MV yX5_stroke := ⟨gw_tb 696 (by decide +kernel) rfl, gw_tb 697 (by decide +kernel) rfl⟩
theorem mb_X5_turned : MB yX5_turned cX5_turned 8 (some .int) 7 := ⟨gw_tb 9 (by decide +kernel) rfl, gw_tb 703 (by decide +kernel) rfl, by decide +kernel, by decide +kernel, by decide +kernel⟩
theorem mv_X5_turned : MV yX5_turned := ⟨gw_tb 701 (by decide +kernel) rfl, gw_tb 702 (by decide +kernel) rfl⟩
theorem mb_X5_waveOf : MB yX5_waveOf cX5_waveOf 11 (some .int) 2 := ⟨gw_tb 9 (by decide +kernel) rfl, gw_tb 769 (by decide +kernel) rfl, by decide +kernel, by decide +kernel, by decide +kernel⟩
theorem mv_X5_waveOf : MV yX5_waveOf := ⟨gw_tb 767 (by decide +kernel) rfl, gw_tb 768 (by decide +kernel) rfl⟩
theorem mb_X5_wayOf : MB yX5_wayOf cX5_wayOf 3 (some .int) 1 := ⟨gw_tb 9 (by decide +kernel) rfl, gw_tb 777 (by decide +kernel) rfl, by decide +kernel, by decide +kernel, by decide +kernel⟩
theorem mv_X5_wayOf : MV yX5_wayOf := ⟨gw_tb 775 (by decide +kernel) rfl, gw_tb 776 (by decide +kernel) rfl⟩
theorem mb_X5_wayPart : MB yX5_wayPart cX5_wayPart 7 (some .int) 1 := ⟨gw_tb 9 (by decide +kernel) rfl, gw_tb 755 (by decide +kernel) rfl, by decide +kernel, by decide +kernel, by decide +kernel⟩
theorem mv_X5_wayPart : MV yX5_wayPart := ⟨gw_tb 753 (by decide +kernel) rfl, gw_tb 754 (by decide +kernel) rfl⟩
theorem mb_X5_worked : MB yX5_worked cX5_worked 10 (some .int) 2 := ⟨gw_tb 9 (by decide +kernel) rfl, gw_tb 708 (by decide +kernel) rfl, by decide +kernel, by decide +kernel, by decide +kernel⟩
theorem mv_X5_worked : MV yX5_worked := ⟨gw_tb 707 (by decide +kernel) rfl, gw_pr 31 (q := (yX5_worked, 5)) (by decide +kernel) rfl⟩
theorem mb_X6_bestExchange : MB yX6_bestExchange cX6_bestExchange 10 (some .int) 3 := ⟨gw_tb 12 (by decide +kernel) rfl, gw_tb 882 (by decide +kernel) rfl, by decide +kernel, by decide +kernel, by decide +kernel⟩
theorem mv_X6_bestExchange : MV yX6_bestExchange := ⟨gw_tb 880 (by decide +kernel) rfl, gw_tb 881 (by decide +kernel) rfl⟩
theorem mb_X6_bestOrder : MB yX6_bestOrder cX6_bestOrder 8 (some .int) 3 := ⟨gw_tb 12 (by decide +kernel) rfl, gw_tb 836 (by decide +kernel) rfl, by decide +kernel, by decide +kernel, by decide +kernel⟩
theorem mv_X6_bestOrder : MV yX6_bestOrder := ⟨gw_tb 834 (by decide +kernel) rfl, gw_tb 835 (by decide +kernel) rfl⟩
theorem mb_X6_cost : MB yX6_cost cX6_cost 11 (some .int) 3 := ⟨gw_tb 12 (by decide +kernel) rfl, gw_tb 847 (by decide +kernel) rfl, by decide +kernel, by decide +kernel, by decide +kernel⟩
theorem mv_X6_cost : MV yX6_cost := ⟨gw_tb 846 (by decide +kernel) rfl, gw_pr 36 (q := (yX6_cost, 4)) (by decide +kernel) rfl⟩
theorem mb_X6_costOf : MB yX6_costOf cX6_costOf 4 (some .int) 2 := ⟨gw_tb 12 (by decide +kernel) rfl, gw_tb 854 (by decide +kernel) rfl, by decide +kernel, by decide +kernel, by decide +kernel⟩
theorem mv_X6_costOf : MV yX6_costOf := ⟨gw_tb 853 (by decide +kernel) rfl, gw_pr 37 (q := (yX6_costOf, 4)) (by decide +kernel) rfl⟩
theorem mb_X6_goToNextOrder : MB yX6_goToNextOrder cX6_goToNextOrder 6 (some .boolean) 1 := ⟨gw_tb 12 (by decide +kernel) rfl, gw_tb 866 (by decide +kernel) rfl, by decide +kernel, by decide +kernel, by decide +kernel⟩
theorem mv_X6_goToNextOrder : MV yX6_goToNextOrder := ⟨gw_tb 865 (by decide +kernel) rfl, gw_pr 38 (q := (yX6_goToNextOrder, 4)) (by decide +kernel) rfl⟩
theorem mb_X6_isAim : MB yX6_isAim cX6_isAim 2 (some .boolean) 2 := ⟨gw_tb 12 (by decide +kernel) rfl, gw_tb 832 (by decide +kernel) rfl, by decide +kernel, by decide +kernel, by decide +kernel⟩
theorem ms_X6_isAim : Cond.static yX6_isAim ∈ gw := gw_tb 831 (by decide +kernel) rfl
theorem mb_X6_sitAsNow : MB yX6_sitAsNow cX6_sitAsNow 2 none 0 := ⟨gw_tb 12 (by decide +kernel) rfl, gw_tb 840 (by decide +kernel) rfl, by decide +kernel, by decide +kernel, by decide +kernel⟩
theorem mv_X6_sitAsNow : MV yX6_sitAsNow := ⟨gw_tb 839 (by decide +kernel) rfl, gw_pr 35 (q := (yX6_sitAsNow, 4)) (by decide +kernel) rfl⟩
theorem mb_X6_swap : MB yX6_swap cX6_swap 4 none 2 := ⟨gw_tb 12 (by decide +kernel) rfl, gw_tb 870 (by decide +kernel) rfl, by decide +kernel, by decide +kernel, by decide +kernel⟩
theorem mv_X6_swap : MV yX6_swap := ⟨gw_tb 869 (by decide +kernel) rfl, gw_pr 39 (q := (yX6_swap, 4)) (by decide +kernel) rfl⟩
theorem mb_X7_clear : MB yX7_clear cX7_clear 1 none 0 := ⟨gw_tb 2 (by decide +kernel) rfl, gw_tb 514 (by decide +kernel) rfl, by decide +kernel, by decide +kernel, by decide +kernel⟩
theorem mv_X7_clear : MV yX7_clear := ⟨gw_tb 512 (by decide +kernel) rfl, gw_tb 513 (by decide +kernel) rfl⟩
theorem mb_X7_isFog : MB yX7_isFog cX7_isFog 3 (some .boolean) 1 := ⟨gw_tb 2 (by decide +kernel) rfl, gw_tb 681 (by decide +kernel) rfl, by decide +kernel, by decide +kernel, by decide +kernel⟩
theorem mv_X7_isFog : MV yX7_isFog := ⟨gw_tb 679 (by decide +kernel) rfl, gw_tb 680 (by decide +kernel) rfl⟩
theorem mb_X8_byteAt : MB yX8_byteAt cX8_byteAt 2 (some .int) 1 := ⟨gw_tb 4 (by decide +kernel) rfl, gw_tb 529 (by decide +kernel) rfl, by decide +kernel, by decide +kernel, by decide +kernel⟩
theorem mv_X8_byteAt : MV yX8_byteAt := ⟨gw_tb 528 (by decide +kernel) rfl, gw_pr 3 (q := (yX8_byteAt, 8)) (by decide +kernel) rfl⟩
theorem mb_X8_cut : MB yX8_cut cX8_cut 3 none 1 := ⟨gw_tb 4 (by decide +kernel) rfl, gw_tb 518 (by decide +kernel) rfl, by decide +kernel, by decide +kernel, by decide +kernel⟩
theorem mv_X8_cut : MV yX8_cut := ⟨gw_tb 516 (by decide +kernel) rfl, gw_tb 517 (by decide +kernel) rfl⟩
theorem mb_X8_isBlank : MB yX8_isBlank cX8_isBlank 1 (some .boolean) 1 := ⟨gw_tb 4 (by decide +kernel) rfl, gw_tb 532 (by decide +kernel) rfl, by decide +kernel, by decide +kernel, by decide +kernel⟩
theorem ms_X8_isBlank : Cond.static yX8_isBlank ∈ gw := gw_tb 531 (by decide +kernel) rfl
theorem mb_X8_isDigit : MB yX8_isDigit cX8_isDigit 1 (some .boolean) 1 := ⟨gw_tb 4 (by decide +kernel) rfl, gw_tb 546 (by decide +kernel) rfl, by decide +kernel, by decide +kernel, by decide +kernel⟩
theorem ms_X8_isDigit : Cond.static yX8_isDigit ∈ gw := gw_tb 545 (by decide +kernel) rfl
theorem mb_X8_isLetter : MB yX8_isLetter cX8_isLetter 1 (some .boolean) 1 := ⟨gw_tb 4 (by decide +kernel) rfl, gw_tb 539 (by decide +kernel) rfl, by decide +kernel, by decide +kernel, by decide +kernel⟩
theorem ms_X8_isLetter : Cond.static yX8_isLetter ∈ gw := gw_tb 538 (by decide +kernel) rfl
theorem mb_X8_nextInt : MB yX8_nextInt cX8_nextInt 2 (some .int) 0 := ⟨gw_tb 4 (by decide +kernel) rfl, gw_tb 550 (by decide +kernel) rfl, by decide +kernel, by decide +kernel, by decide +kernel⟩
theorem mv_X8_nextInt : MV yX8_nextInt := ⟨gw_tb 549 (by decide +kernel) rfl, gw_pr 6 (q := (yX8_nextInt, 8)) (by decide +kernel) rfl⟩
theorem mb_X8_nextKind : MB yX8_nextKind cX8_nextKind 2 (some .int) 0 := ⟨gw_tb 4 (by decide +kernel) rfl, gw_tb 536 (by decide +kernel) rfl, by decide +kernel, by decide +kernel, by decide +kernel⟩
theorem mv_X8_nextKind : MV yX8_nextKind := ⟨gw_tb 535 (by decide +kernel) rfl, gw_pr 4 (q := (yX8_nextKind, 8)) (by decide +kernel) rfl⟩
theorem mb_X8_nextSign : MB yX8_nextSign cX8_nextSign 2 (some .int) 1 := ⟨gw_tb 4 (by decide +kernel) rfl, gw_tb 555 (by decide +kernel) rfl, by decide +kernel, by decide +kernel, by decide +kernel⟩
theorem mv_X8_nextSign : MV yX8_nextSign := ⟨gw_tb 554 (by decide +kernel) rfl, gw_pr 7 (q := (yX8_nextSign, 8)) (by decide +kernel) rfl⟩
theorem mb_X8_nextWord : MB yX8_nextWord cX8_nextWord 3 (some .int) 0 := ⟨gw_tb 4 (by decide +kernel) rfl, gw_tb 543 (by decide +kernel) rfl, by decide +kernel, by decide +kernel, by decide +kernel⟩
theorem mv_X8_nextWord : MV yX8_nextWord := ⟨gw_tb 542 (by decide +kernel) rfl, gw_pr 5 (q := (yX8_nextWord, 8)) (by decide +kernel) rfl⟩
theorem mb_X8_skipBlanks : MB yX8_skipBlanks cX8_skipBlanks 1 none 0 := ⟨gw_tb 4 (by decide +kernel) rfl, gw_tb 525 (by decide +kernel) rfl, by decide +kernel, by decide +kernel, by decide +kernel⟩
theorem mv_X8_skipBlanks : MV yX8_skipBlanks := ⟨gw_tb 524 (by decide +kernel) rfl, gw_pr 2 (q := (yX8_skipBlanks, 8)) (by decide +kernel) rfl⟩
theorem mb_X8_withLetter : MB yX8_withLetter cX8_withLetter 3 (some .long) 2 := ⟨gw_tb 4 (by decide +kernel) rfl, gw_tb 183 (by decide +kernel) rfl, by decide +kernel, by decide +kernel, by decide +kernel⟩
theorem ms_X8_withLetter : Cond.static yX8_withLetter ∈ gw := gw_tb 182 (by decide +kernel) rfl
theorem mb_X9_findRound : MB yX9_findRound cX9_findRound 3 (some .boolean) 1 := ⟨gw_tb 14 (by decide +kernel) rfl, gw_tb 801 (by decide +kernel) rfl, by decide +kernel, by decide +kernel, by decide +kernel⟩
theorem mv_X9_findRound : MV yX9_findRound := ⟨gw_tb 799 (by decide +kernel) rfl, gw_tb 800 (by decide +kernel) rfl⟩
theorem mb_X9_planRam : MB yX9_planRam cX9_planRam 7 none 2 := ⟨gw_tb 14 (by decide +kernel) rfl, gw_tb 915 (by decide +kernel) rfl, by decide +kernel, by decide +kernel, by decide +kernel⟩
theorem mv_X9_planRam : MV yX9_planRam := ⟨gw_tb 913 (by decide +kernel) rfl, gw_tb 914 (by decide +kernel) rfl⟩
theorem mb_X9_wayBehind : MB yX9_wayBehind cX9_wayBehind 8 (some .int) 4 := ⟨gw_tb 14 (by decide +kernel) rfl, gw_tb 921 (by decide +kernel) rfl, by decide +kernel, by decide +kernel, by decide +kernel⟩
theorem mv_X9_wayBehind : MV yX9_wayBehind := ⟨gw_tb 920 (by decide +kernel) rfl, gw_pr 42 (q := (yX9_wayBehind, 7)) (by decide +kernel) rfl⟩
theorem mb_X9_weighed : MB yX9_weighed cX9_weighed 13 (some .long) 5 := ⟨gw_tb 14 (by decide +kernel) rfl, gw_tb 930 (by decide +kernel) rfl, by decide +kernel, by decide +kernel, by decide +kernel⟩
theorem mv_X9_weighed : MV yX9_weighed := ⟨gw_tb 928 (by decide +kernel) rfl, gw_tb 929 (by decide +kernel) rfl⟩
