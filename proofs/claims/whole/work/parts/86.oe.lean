/-! the tables of the class, entry by entry -/
theorem ozlo {lv : zLv} {i : Nat} {r : Option Nat} (h : lv[i]? = some (some (va_rf r))) : zlo lv (i + 1) = true := by
  simp only [zlo, h]
  cases r <;> rfl
theorem oF_RJ0_9 : (RJ0, 9, 0, 0) ∈ oft := List.mem_of_getElem? (i := 0) rfl
theorem oF_RJ0_15 : (RJ0, 15, 0, 1) ∈ oft := List.mem_of_getElem? (i := 1) rfl
theorem oF_RJx4a65c_9 : (RJx4a65c, 9, 1, 1) ∈ oft := List.mem_of_getElem? (i := 2) rfl
theorem oF_RJx4a65c_48 : (RJx4a65c, 48, 1, 2) ∈ oft := List.mem_of_getElem? (i := 3) rfl
theorem oF_RJxc12de_7 : (RJxc12de, 7, 1, 0) ∈ oft := List.mem_of_getElem? (i := 4) rfl
theorem oF_RX0_12 : (RX0, 12, 2, 3) ∈ oft := List.mem_of_getElem? (i := 5) rfl
theorem oF_RX0_18 : (RX0, 18, 2, 4) ∈ oft := List.mem_of_getElem? (i := 6) rfl
theorem oF_RX0_21 : (RX0, 21, 2, 5) ∈ oft := List.mem_of_getElem? (i := 7) rfl
theorem oF_RX0_24 : (RX0, 24, 2, 6) ∈ oft := List.mem_of_getElem? (i := 8) rfl
theorem oF_RX0_29 : (RX0, 29, 2, 7) ∈ oft := List.mem_of_getElem? (i := 9) rfl
theorem oF_RX0_33 : (RX0, 33, 2, 9) ∈ oft := List.mem_of_getElem? (i := 10) rfl
theorem oF_RX0_37 : (RX0, 37, 2, 0) ∈ oft := List.mem_of_getElem? (i := 11) rfl
theorem oF_RX0_41 : (RX0, 41, 2, 1) ∈ oft := List.mem_of_getElem? (i := 12) rfl
theorem oF_RX0_45 : (RX0, 45, 2, 2) ∈ oft := List.mem_of_getElem? (i := 13) rfl
theorem oF_RX0_49 : (RX0, 49, 9, 9) ∈ oft := List.mem_of_getElem? (i := 14) rfl
theorem oF_RX0_54 : (RX0, 54, 9, 2) ∈ oft := List.mem_of_getElem? (i := 15) rfl
theorem oF_RX0_63 : (RX0, 63, 6, 3) ∈ oft := List.mem_of_getElem? (i := 16) rfl
theorem oF_RX0_69 : (RX0, 69, 6, 4) ∈ oft := List.mem_of_getElem? (i := 17) rfl
theorem oF_RX0_78 : (RX0, 78, 9, 10) ∈ oft := List.mem_of_getElem? (i := 18) rfl
theorem oF_RX0_92 : (RX0, 92, 7, 3) ∈ oft := List.mem_of_getElem? (i := 19) rfl
theorem oF_RX0_95 : (RX0, 95, 7, 20) ∈ oft := List.mem_of_getElem? (i := 20) rfl
theorem oF_RX0_99 : (RX0, 99, 7, 17) ∈ oft := List.mem_of_getElem? (i := 21) rfl
theorem oF_RX0_109 : (RX0, 109, 4, 1) ∈ oft := List.mem_of_getElem? (i := 22) rfl
theorem oF_RX0_112 : (RX0, 112, 4, 7) ∈ oft := List.mem_of_getElem? (i := 23) rfl
theorem oF_RX0_123 : (RX0, 123, 4, 8) ∈ oft := List.mem_of_getElem? (i := 24) rfl
theorem oF_RX0_126 : (RX0, 126, 10, 0) ∈ oft := List.mem_of_getElem? (i := 25) rfl
theorem oF_RX0_136 : (RX0, 136, 10, 3) ∈ oft := List.mem_of_getElem? (i := 26) rfl
theorem oF_RX0_143 : (RX0, 143, 7, 0) ∈ oft := List.mem_of_getElem? (i := 27) rfl
theorem oF_RX0_164 : (RX0, 164, 7, 12) ∈ oft := List.mem_of_getElem? (i := 28) rfl
theorem oF_RX0_167 : (RX0, 167, 7, 14) ∈ oft := List.mem_of_getElem? (i := 29) rfl
theorem oF_RX0_184 : (RX0, 184, 7, 15) ∈ oft := List.mem_of_getElem? (i := 30) rfl
theorem oF_RX0_187 : (RX0, 187, 7, 19) ∈ oft := List.mem_of_getElem? (i := 31) rfl
theorem oF_RX0_191 : (RX0, 191, 7, 9) ∈ oft := List.mem_of_getElem? (i := 32) rfl
theorem oF_RX0_195 : (RX0, 195, 7, 16) ∈ oft := List.mem_of_getElem? (i := 33) rfl
theorem oF_RX0_205 : (RX0, 205, 7, 6) ∈ oft := List.mem_of_getElem? (i := 34) rfl
theorem oF_RX0_212 : (RX0, 212, 11, 2) ∈ oft := List.mem_of_getElem? (i := 35) rfl
theorem oF_RX0_213 : (RX0, 213, 11, 3) ∈ oft := List.mem_of_getElem? (i := 36) rfl
theorem oF_RX0_224 : (RX0, 224, 7, 10) ∈ oft := List.mem_of_getElem? (i := 37) rfl
theorem oF_RX0_226 : (RX0, 226, 7, 8) ∈ oft := List.mem_of_getElem? (i := 38) rfl
theorem oF_RX0_233 : (RX0, 233, 7, 13) ∈ oft := List.mem_of_getElem? (i := 39) rfl
theorem oF_RX0_240 : (RX0, 240, 6, 2) ∈ oft := List.mem_of_getElem? (i := 40) rfl
theorem oF_RX0_241 : (RX0, 241, 7, 11) ∈ oft := List.mem_of_getElem? (i := 41) rfl
theorem oF_RX0_254 : (RX0, 254, 7, 18) ∈ oft := List.mem_of_getElem? (i := 42) rfl
theorem oF_RX0_257 : (RX0, 257, 4, 0) ∈ oft := List.mem_of_getElem? (i := 43) rfl
theorem oF_RX0_262 : (RX0, 262, 4, 2) ∈ oft := List.mem_of_getElem? (i := 44) rfl
theorem oF_RX0_268 : (RX0, 268, 2, 8) ∈ oft := List.mem_of_getElem? (i := 45) rfl
theorem oF_RX0_283 : (RX0, 283, 4, 3) ∈ oft := List.mem_of_getElem? (i := 46) rfl
theorem oF_RX0_289 : (RX0, 289, 4, 4) ∈ oft := List.mem_of_getElem? (i := 47) rfl
theorem oF_RX0_296 : (RX0, 296, 9, 8) ∈ oft := List.mem_of_getElem? (i := 48) rfl
theorem oF_RX0_299 : (RX0, 299, 9, 4) ∈ oft := List.mem_of_getElem? (i := 49) rfl
theorem oF_RX0_303 : (RX0, 303, 9, 6) ∈ oft := List.mem_of_getElem? (i := 50) rfl
theorem oF_RX0_306 : (RX0, 306, 9, 5) ∈ oft := List.mem_of_getElem? (i := 51) rfl
theorem oF_RX0_309 : (RX0, 309, 9, 7) ∈ oft := List.mem_of_getElem? (i := 52) rfl
theorem oF_RX0_316 : (RX0, 316, 6, 5) ∈ oft := List.mem_of_getElem? (i := 53) rfl
theorem oF_RX1_12 : (RX1, 12, 3, 0) ∈ oft := List.mem_of_getElem? (i := 54) rfl
theorem oF_RX1_20 : (RX1, 20, 3, 1) ∈ oft := List.mem_of_getElem? (i := 55) rfl
theorem oF_RX1_24 : (RX1, 24, 3, 2) ∈ oft := List.mem_of_getElem? (i := 56) rfl
theorem oF_RX1_30 : (RX1, 30, 3, 4) ∈ oft := List.mem_of_getElem? (i := 57) rfl
theorem oF_RX1_34 : (RX1, 34, 3, 5) ∈ oft := List.mem_of_getElem? (i := 58) rfl
theorem oF_RX1_37 : (RX1, 37, 4, 1) ∈ oft := List.mem_of_getElem? (i := 59) rfl
theorem oF_RX1_43 : (RX1, 43, 4, 7) ∈ oft := List.mem_of_getElem? (i := 60) rfl
theorem oF_RX1_47 : (RX1, 47, 3, 8) ∈ oft := List.mem_of_getElem? (i := 61) rfl
theorem oF_RX1_65 : (RX1, 65, 3, 9) ∈ oft := List.mem_of_getElem? (i := 62) rfl
theorem oF_RX1_73 : (RX1, 73, 7, 0) ∈ oft := List.mem_of_getElem? (i := 63) rfl
theorem oF_RX1_76 : (RX1, 76, 7, 19) ∈ oft := List.mem_of_getElem? (i := 64) rfl
theorem oF_RX1_86 : (RX1, 86, 7, 18) ∈ oft := List.mem_of_getElem? (i := 65) rfl
theorem oF_RX1_100 : (RX1, 100, 3, 7) ∈ oft := List.mem_of_getElem? (i := 66) rfl
theorem oF_RX1_103 : (RX1, 103, 3, 3) ∈ oft := List.mem_of_getElem? (i := 67) rfl
theorem oF_RX1_106 : (RX1, 106, 3, 6) ∈ oft := List.mem_of_getElem? (i := 68) rfl
theorem oF_RX1_109 : (RX1, 109, 10, 0) ∈ oft := List.mem_of_getElem? (i := 69) rfl
theorem oF_RX1_118 : (RX1, 118, 6, 6) ∈ oft := List.mem_of_getElem? (i := 70) rfl
theorem oF_RX1_121 : (RX1, 121, 6, 7) ∈ oft := List.mem_of_getElem? (i := 71) rfl
theorem oF_RX1_122 : (RX1, 122, 10, 3) ∈ oft := List.mem_of_getElem? (i := 72) rfl
theorem oF_RX1_133 : (RX1, 133, 10, 1) ∈ oft := List.mem_of_getElem? (i := 73) rfl
theorem oF_RX1_137 : (RX1, 137, 10, 2) ∈ oft := List.mem_of_getElem? (i := 74) rfl
theorem oF_RX1_140 : (RX1, 140, 6, 4) ∈ oft := List.mem_of_getElem? (i := 75) rfl
theorem oF_RX1_143 : (RX1, 143, 4, 0) ∈ oft := List.mem_of_getElem? (i := 76) rfl
theorem oF_RX1_155 : (RX1, 155, 4, 13) ∈ oft := List.mem_of_getElem? (i := 77) rfl
theorem oF_RX1_156 : (RX1, 156, 4, 11) ∈ oft := List.mem_of_getElem? (i := 78) rfl
theorem oF_RX1_159 : (RX1, 159, 4, 14) ∈ oft := List.mem_of_getElem? (i := 79) rfl
theorem oF_RX1_165 : (RX1, 165, 4, 12) ∈ oft := List.mem_of_getElem? (i := 80) rfl
theorem oF_RX1_176 : (RX1, 176, 7, 12) ∈ oft := List.mem_of_getElem? (i := 81) rfl
theorem oF_RX1_182 : (RX1, 182, 7, 9) ∈ oft := List.mem_of_getElem? (i := 82) rfl
theorem oF_RX1_190 : (RX1, 190, 8, 4) ∈ oft := List.mem_of_getElem? (i := 83) rfl
theorem oF_RX1_193 : (RX1, 193, 7, 5) ∈ oft := List.mem_of_getElem? (i := 84) rfl
theorem oF_RX1_201 : (RX1, 201, 11, 3) ∈ oft := List.mem_of_getElem? (i := 85) rfl
theorem oF_RX1_202 : (RX1, 202, 11, 2) ∈ oft := List.mem_of_getElem? (i := 86) rfl
theorem oF_RX1_203 : (RX1, 203, 11, 0) ∈ oft := List.mem_of_getElem? (i := 87) rfl
theorem oF_RX1_206 : (RX1, 206, 11, 1) ∈ oft := List.mem_of_getElem? (i := 88) rfl
theorem oF_RX1_226 : (RX1, 226, 4, 5) ∈ oft := List.mem_of_getElem? (i := 89) rfl
theorem oF_RX1_229 : (RX1, 229, 4, 6) ∈ oft := List.mem_of_getElem? (i := 90) rfl
theorem oF_RX10_9 : (RX10, 9, 12, 8) ∈ oft := List.mem_of_getElem? (i := 91) rfl
theorem oF_RX10_15 : (RX10, 15, 12, 9) ∈ oft := List.mem_of_getElem? (i := 92) rfl
theorem oF_RX10_18 : (RX10, 18, 12, 0) ∈ oft := List.mem_of_getElem? (i := 93) rfl
theorem oF_RX10_22 : (RX10, 22, 12, 1) ∈ oft := List.mem_of_getElem? (i := 94) rfl
theorem oF_RX10_25 : (RX10, 25, 12, 2) ∈ oft := List.mem_of_getElem? (i := 95) rfl
theorem oF_RX10_28 : (RX10, 28, 12, 3) ∈ oft := List.mem_of_getElem? (i := 96) rfl
theorem oF_RX10_31 : (RX10, 31, 12, 4) ∈ oft := List.mem_of_getElem? (i := 97) rfl
theorem oF_RX10_34 : (RX10, 34, 12, 5) ∈ oft := List.mem_of_getElem? (i := 98) rfl
theorem oF_RX10_41 : (RX10, 41, 9, 9) ∈ oft := List.mem_of_getElem? (i := 99) rfl
theorem oF_RX10_46 : (RX10, 46, 9, 2) ∈ oft := List.mem_of_getElem? (i := 100) rfl
theorem oF_RX10_62 : (RX10, 62, 6, 3) ∈ oft := List.mem_of_getElem? (i := 101) rfl
theorem oF_RX10_68 : (RX10, 68, 6, 2) ∈ oft := List.mem_of_getElem? (i := 102) rfl
theorem oF_RX10_71 : (RX10, 71, 9, 10) ∈ oft := List.mem_of_getElem? (i := 103) rfl
theorem oF_RX10_86 : (RX10, 86, 12, 6) ∈ oft := List.mem_of_getElem? (i := 104) rfl
theorem oF_RX10_106 : (RX10, 106, 7, 0) ∈ oft := List.mem_of_getElem? (i := 105) rfl
theorem oF_RX10_111 : (RX10, 111, 7, 10) ∈ oft := List.mem_of_getElem? (i := 106) rfl
theorem oF_RX10_114 : (RX10, 114, 7, 12) ∈ oft := List.mem_of_getElem? (i := 107) rfl
theorem oF_RX10_117 : (RX10, 117, 7, 13) ∈ oft := List.mem_of_getElem? (i := 108) rfl
theorem oF_RX10_120 : (RX10, 120, 7, 8) ∈ oft := List.mem_of_getElem? (i := 109) rfl
theorem oF_RX10_124 : (RX10, 124, 7, 11) ∈ oft := List.mem_of_getElem? (i := 110) rfl
theorem oF_RX10_131 : (RX10, 131, 7, 14) ∈ oft := List.mem_of_getElem? (i := 111) rfl
theorem oF_RX10_137 : (RX10, 137, 7, 1) ∈ oft := List.mem_of_getElem? (i := 112) rfl
theorem oF_RX10_147 : (RX10, 147, 7, 9) ∈ oft := List.mem_of_getElem? (i := 113) rfl
theorem oF_RX10_150 : (RX10, 150, 7, 4) ∈ oft := List.mem_of_getElem? (i := 114) rfl
theorem oF_RX10_153 : (RX10, 153, 7, 15) ∈ oft := List.mem_of_getElem? (i := 115) rfl
theorem oF_RX10_159 : (RX10, 159, 7, 16) ∈ oft := List.mem_of_getElem? (i := 116) rfl
theorem oF_RX10_168 : (RX10, 168, 7, 6) ∈ oft := List.mem_of_getElem? (i := 117) rfl
theorem oF_RX10_171 : (RX10, 171, 7, 18) ∈ oft := List.mem_of_getElem? (i := 118) rfl
theorem oF_RX10_174 : (RX10, 174, 7, 3) ∈ oft := List.mem_of_getElem? (i := 119) rfl
theorem oF_RX10_177 : (RX10, 177, 12, 7) ∈ oft := List.mem_of_getElem? (i := 120) rfl
theorem oF_RX11_9 : (RX11, 9, 13, 5) ∈ oft := List.mem_of_getElem? (i := 121) rfl
theorem oF_RX11_15 : (RX11, 15, 13, 0) ∈ oft := List.mem_of_getElem? (i := 122) rfl
theorem oF_RX11_25 : (RX11, 25, 13, 1) ∈ oft := List.mem_of_getElem? (i := 123) rfl
theorem oF_RX11_29 : (RX11, 29, 13, 2) ∈ oft := List.mem_of_getElem? (i := 124) rfl
theorem oF_RX11_32 : (RX11, 32, 13, 3) ∈ oft := List.mem_of_getElem? (i := 125) rfl
theorem oF_RX11_50 : (RX11, 50, 13, 4) ∈ oft := List.mem_of_getElem? (i := 126) rfl
theorem oF_RX12_9 : (RX12, 9, 14, 0) ∈ oft := List.mem_of_getElem? (i := 127) rfl
theorem oF_RX12_13 : (RX12, 13, 14, 5) ∈ oft := List.mem_of_getElem? (i := 128) rfl
theorem oF_RX12_17 : (RX12, 17, 14, 6) ∈ oft := List.mem_of_getElem? (i := 129) rfl
theorem oF_RX12_20 : (RX12, 20, 14, 7) ∈ oft := List.mem_of_getElem? (i := 130) rfl
theorem oF_RX12_26 : (RX12, 26, 14, 10) ∈ oft := List.mem_of_getElem? (i := 131) rfl
theorem oF_RX12_33 : (RX12, 33, 14, 11) ∈ oft := List.mem_of_getElem? (i := 132) rfl
theorem oF_RX12_40 : (RX12, 40, 14, 12) ∈ oft := List.mem_of_getElem? (i := 133) rfl
theorem oF_RX12_44 : (RX12, 44, 14, 1) ∈ oft := List.mem_of_getElem? (i := 134) rfl
theorem oF_RX12_51 : (RX12, 51, 14, 2) ∈ oft := List.mem_of_getElem? (i := 135) rfl
theorem oF_RX12_55 : (RX12, 55, 14, 3) ∈ oft := List.mem_of_getElem? (i := 136) rfl
theorem oF_RX12_59 : (RX12, 59, 14, 4) ∈ oft := List.mem_of_getElem? (i := 137) rfl
theorem oF_RX12_76 : (RX12, 76, 13, 5) ∈ oft := List.mem_of_getElem? (i := 138) rfl
theorem oF_RX12_91 : (RX12, 91, 9, 15) ∈ oft := List.mem_of_getElem? (i := 139) rfl
theorem oF_RX12_93 : (RX12, 93, 9, 16) ∈ oft := List.mem_of_getElem? (i := 140) rfl
theorem oF_RX12_98 : (RX12, 98, 13, 4) ∈ oft := List.mem_of_getElem? (i := 141) rfl
theorem oF_RX12_107 : (RX12, 107, 12, 8) ∈ oft := List.mem_of_getElem? (i := 142) rfl
theorem oF_RX12_108 : (RX12, 108, 12, 9) ∈ oft := List.mem_of_getElem? (i := 143) rfl
theorem oF_RX12_114 : (RX12, 114, 9, 17) ∈ oft := List.mem_of_getElem? (i := 144) rfl
theorem oF_RX12_117 : (RX12, 117, 9, 10) ∈ oft := List.mem_of_getElem? (i := 145) rfl
theorem oF_RX12_121 : (RX12, 121, 7, 8) ∈ oft := List.mem_of_getElem? (i := 146) rfl
theorem oF_RX12_148 : (RX12, 148, 2, 9) ∈ oft := List.mem_of_getElem? (i := 147) rfl
theorem oF_RX12_151 : (RX12, 151, 9, 2) ∈ oft := List.mem_of_getElem? (i := 148) rfl
theorem oF_RX12_158 : (RX12, 158, 14, 9) ∈ oft := List.mem_of_getElem? (i := 149) rfl
theorem oF_RX12_170 : (RX12, 170, 6, 4) ∈ oft := List.mem_of_getElem? (i := 150) rfl
theorem oF_RX12_178 : (RX12, 178, 14, 8) ∈ oft := List.mem_of_getElem? (i := 151) rfl
theorem oF_RX12_181 : (RX12, 181, 4, 0) ∈ oft := List.mem_of_getElem? (i := 152) rfl
theorem oF_RX12_190 : (RX12, 190, 4, 1) ∈ oft := List.mem_of_getElem? (i := 153) rfl
theorem oF_RX12_193 : (RX12, 193, 4, 2) ∈ oft := List.mem_of_getElem? (i := 154) rfl
theorem oF_RX12_217 : (RX12, 217, 4, 7) ∈ oft := List.mem_of_getElem? (i := 155) rfl
theorem oF_RX12_225 : (RX12, 225, 4, 11) ∈ oft := List.mem_of_getElem? (i := 156) rfl
theorem oF_RX12_246 : (RX12, 246, 4, 13) ∈ oft := List.mem_of_getElem? (i := 157) rfl
theorem oF_RX12_249 : (RX12, 249, 4, 14) ∈ oft := List.mem_of_getElem? (i := 158) rfl
theorem oF_RX12_257 : (RX12, 257, 4, 12) ∈ oft := List.mem_of_getElem? (i := 159) rfl
theorem oF_RX12_260 : (RX12, 260, 6, 3) ∈ oft := List.mem_of_getElem? (i := 160) rfl
theorem oF_RX12_269 : (RX12, 269, 6, 0) ∈ oft := List.mem_of_getElem? (i := 161) rfl
theorem oF_RX12_303 : (RX12, 303, 9, 9) ∈ oft := List.mem_of_getElem? (i := 162) rfl
theorem oF_RX12_316 : (RX12, 316, 5, 16) ∈ oft := List.mem_of_getElem? (i := 163) rfl
theorem oF_RX12_319 : (RX12, 319, 5, 17) ∈ oft := List.mem_of_getElem? (i := 164) rfl
theorem oF_RX2_7 : (RX2, 7, 4, 0) ∈ oft := List.mem_of_getElem? (i := 165) rfl
theorem oF_RX2_13 : (RX2, 13, 4, 1) ∈ oft := List.mem_of_getElem? (i := 166) rfl
theorem oF_RX2_17 : (RX2, 17, 4, 9) ∈ oft := List.mem_of_getElem? (i := 167) rfl
theorem oF_RX2_21 : (RX2, 21, 4, 10) ∈ oft := List.mem_of_getElem? (i := 168) rfl
theorem oF_RX2_41 : (RX2, 41, 4, 5) ∈ oft := List.mem_of_getElem? (i := 169) rfl
theorem oF_RX2_45 : (RX2, 45, 4, 6) ∈ oft := List.mem_of_getElem? (i := 170) rfl
theorem oF_RX2_48 : (RX2, 48, 4, 7) ∈ oft := List.mem_of_getElem? (i := 171) rfl
theorem oF_RX2_51 : (RX2, 51, 4, 11) ∈ oft := List.mem_of_getElem? (i := 172) rfl
theorem oF_RX2_54 : (RX2, 54, 11, 3) ∈ oft := List.mem_of_getElem? (i := 173) rfl
theorem oF_RX2_58 : (RX2, 58, 4, 14) ∈ oft := List.mem_of_getElem? (i := 174) rfl
theorem oF_RX2_59 : (RX2, 59, 11, 2) ∈ oft := List.mem_of_getElem? (i := 175) rfl
theorem oF_RX2_60 : (RX2, 60, 11, 0) ∈ oft := List.mem_of_getElem? (i := 176) rfl
theorem oF_RX2_63 : (RX2, 63, 4, 13) ∈ oft := List.mem_of_getElem? (i := 177) rfl
theorem oF_RX2_67 : (RX2, 67, 11, 1) ∈ oft := List.mem_of_getElem? (i := 178) rfl
theorem oF_RX2_70 : (RX2, 70, 4, 12) ∈ oft := List.mem_of_getElem? (i := 179) rfl
theorem oF_RX2_76 : (RX2, 76, 4, 3) ∈ oft := List.mem_of_getElem? (i := 180) rfl
theorem oF_RX2_82 : (RX2, 82, 4, 4) ∈ oft := List.mem_of_getElem? (i := 181) rfl
theorem oF_RX2_87 : (RX2, 87, 4, 2) ∈ oft := List.mem_of_getElem? (i := 182) rfl
theorem oF_RX3_11 : (RX3, 11, 5, 2) ∈ oft := List.mem_of_getElem? (i := 183) rfl
theorem oF_RX3_17 : (RX3, 17, 5, 3) ∈ oft := List.mem_of_getElem? (i := 184) rfl
theorem oF_RX3_21 : (RX3, 21, 5, 4) ∈ oft := List.mem_of_getElem? (i := 185) rfl
theorem oF_RX3_26 : (RX3, 26, 5, 6) ∈ oft := List.mem_of_getElem? (i := 186) rfl
theorem oF_RX3_30 : (RX3, 30, 5, 7) ∈ oft := List.mem_of_getElem? (i := 187) rfl
theorem oF_RX3_33 : (RX3, 33, 5, 8) ∈ oft := List.mem_of_getElem? (i := 188) rfl
theorem oF_RX3_36 : (RX3, 36, 5, 0) ∈ oft := List.mem_of_getElem? (i := 189) rfl
theorem oF_RX3_40 : (RX3, 40, 5, 16) ∈ oft := List.mem_of_getElem? (i := 190) rfl
theorem oF_RX3_44 : (RX3, 44, 5, 1) ∈ oft := List.mem_of_getElem? (i := 191) rfl
theorem oF_RX3_57 : (RX3, 57, 5, 11) ∈ oft := List.mem_of_getElem? (i := 192) rfl
theorem oF_RX3_60 : (RX3, 60, 5, 12) ∈ oft := List.mem_of_getElem? (i := 193) rfl
theorem oF_RX3_66 : (RX3, 66, 9, 10) ∈ oft := List.mem_of_getElem? (i := 194) rfl
theorem oF_RX3_73 : (RX3, 73, 5, 9) ∈ oft := List.mem_of_getElem? (i := 195) rfl
theorem oF_RX3_84 : (RX3, 84, 5, 17) ∈ oft := List.mem_of_getElem? (i := 196) rfl
theorem oF_RX3_87 : (RX3, 87, 5, 15) ∈ oft := List.mem_of_getElem? (i := 197) rfl
theorem oF_RX3_94 : (RX3, 94, 5, 5) ∈ oft := List.mem_of_getElem? (i := 198) rfl
theorem oF_RX3_97 : (RX3, 97, 5, 10) ∈ oft := List.mem_of_getElem? (i := 199) rfl
theorem oF_RX3_100 : (RX3, 100, 5, 13) ∈ oft := List.mem_of_getElem? (i := 200) rfl
theorem oF_RX3_103 : (RX3, 103, 5, 14) ∈ oft := List.mem_of_getElem? (i := 201) rfl
theorem oF_RX3_106 : (RX3, 106, 9, 9) ∈ oft := List.mem_of_getElem? (i := 202) rfl
theorem oF_RX3_109 : (RX3, 109, 9, 2) ∈ oft := List.mem_of_getElem? (i := 203) rfl
theorem oF_RX3_121 : (RX3, 121, 6, 3) ∈ oft := List.mem_of_getElem? (i := 204) rfl
theorem oF_RX3_143 : (RX3, 143, 7, 0) ∈ oft := List.mem_of_getElem? (i := 205) rfl
theorem oF_RX3_150 : (RX3, 150, 7, 12) ∈ oft := List.mem_of_getElem? (i := 206) rfl
theorem oF_RX3_153 : (RX3, 153, 7, 7) ∈ oft := List.mem_of_getElem? (i := 207) rfl
theorem oF_RX3_160 : (RX3, 160, 7, 13) ∈ oft := List.mem_of_getElem? (i := 208) rfl
theorem oF_RX3_163 : (RX3, 163, 7, 14) ∈ oft := List.mem_of_getElem? (i := 209) rfl
theorem oF_RX3_188 : (RX3, 188, 7, 18) ∈ oft := List.mem_of_getElem? (i := 210) rfl
theorem oF_RX3_198 : (RX3, 198, 7, 9) ∈ oft := List.mem_of_getElem? (i := 211) rfl
theorem oF_RX3_202 : (RX3, 202, 7, 2) ∈ oft := List.mem_of_getElem? (i := 212) rfl
theorem oF_RX3_209 : (RX3, 209, 7, 6) ∈ oft := List.mem_of_getElem? (i := 213) rfl
theorem oF_RX3_215 : (RX3, 215, 9, 3) ∈ oft := List.mem_of_getElem? (i := 214) rfl
theorem oF_RX3_218 : (RX3, 218, 7, 11) ∈ oft := List.mem_of_getElem? (i := 215) rfl
theorem oF_RX3_225 : (RX3, 225, 7, 16) ∈ oft := List.mem_of_getElem? (i := 216) rfl
theorem oF_RX3_228 : (RX3, 228, 7, 15) ∈ oft := List.mem_of_getElem? (i := 217) rfl
theorem oF_RX3_263 : (RX3, 263, 7, 19) ∈ oft := List.mem_of_getElem? (i := 218) rfl
theorem oF_RX3_266 : (RX3, 266, 11, 3) ∈ oft := List.mem_of_getElem? (i := 219) rfl
theorem oF_RX3_271 : (RX3, 271, 11, 2) ∈ oft := List.mem_of_getElem? (i := 220) rfl
theorem oF_RX3_274 : (RX3, 274, 11, 0) ∈ oft := List.mem_of_getElem? (i := 221) rfl
theorem oF_RX3_277 : (RX3, 277, 11, 1) ∈ oft := List.mem_of_getElem? (i := 222) rfl
theorem oF_RX3_280 : (RX3, 280, 6, 1) ∈ oft := List.mem_of_getElem? (i := 223) rfl
theorem oF_RX3_283 : (RX3, 283, 7, 5) ∈ oft := List.mem_of_getElem? (i := 224) rfl
theorem oF_RX4_9 : (RX4, 9, 6, 0) ∈ oft := List.mem_of_getElem? (i := 225) rfl
theorem oF_RX4_15 : (RX4, 15, 6, 3) ∈ oft := List.mem_of_getElem? (i := 226) rfl
theorem oF_RX5_7 : (RX5, 7, 7, 0) ∈ oft := List.mem_of_getElem? (i := 227) rfl
theorem oF_RX5_13 : (RX5, 13, 7, 1) ∈ oft := List.mem_of_getElem? (i := 228) rfl
theorem oF_RX5_16 : (RX5, 16, 7, 2) ∈ oft := List.mem_of_getElem? (i := 229) rfl
theorem oF_RX5_19 : (RX5, 19, 7, 3) ∈ oft := List.mem_of_getElem? (i := 230) rfl
theorem oF_RX6_7 : (RX6, 7, 8, 0) ∈ oft := List.mem_of_getElem? (i := 231) rfl
theorem oF_RX6_13 : (RX6, 13, 8, 1) ∈ oft := List.mem_of_getElem? (i := 232) rfl
theorem oF_RX6_17 : (RX6, 17, 8, 2) ∈ oft := List.mem_of_getElem? (i := 233) rfl
theorem oF_RX6_20 : (RX6, 20, 8, 3) ∈ oft := List.mem_of_getElem? (i := 234) rfl
theorem oF_RX6_24 : (RX6, 24, 8, 4) ∈ oft := List.mem_of_getElem? (i := 235) rfl
theorem oF_RX7_11 : (RX7, 11, 9, 1) ∈ oft := List.mem_of_getElem? (i := 236) rfl
theorem oF_RX7_20 : (RX7, 20, 9, 2) ∈ oft := List.mem_of_getElem? (i := 237) rfl
theorem oF_RX7_24 : (RX7, 24, 9, 3) ∈ oft := List.mem_of_getElem? (i := 238) rfl
theorem oF_RX7_27 : (RX7, 27, 9, 4) ∈ oft := List.mem_of_getElem? (i := 239) rfl
theorem oF_RX7_31 : (RX7, 31, 9, 5) ∈ oft := List.mem_of_getElem? (i := 240) rfl
theorem oF_RX7_34 : (RX7, 34, 9, 6) ∈ oft := List.mem_of_getElem? (i := 241) rfl
theorem oF_RX7_37 : (RX7, 37, 9, 7) ∈ oft := List.mem_of_getElem? (i := 242) rfl
theorem oF_RX7_40 : (RX7, 40, 9, 15) ∈ oft := List.mem_of_getElem? (i := 243) rfl
theorem oF_RX7_44 : (RX7, 44, 9, 16) ∈ oft := List.mem_of_getElem? (i := 244) rfl
theorem oF_RX7_47 : (RX7, 47, 9, 17) ∈ oft := List.mem_of_getElem? (i := 245) rfl
theorem oF_RX7_50 : (RX7, 50, 9, 0) ∈ oft := List.mem_of_getElem? (i := 246) rfl
theorem oF_RX7_54 : (RX7, 54, 9, 8) ∈ oft := List.mem_of_getElem? (i := 247) rfl
theorem oF_RX7_64 : (RX7, 64, 9, 9) ∈ oft := List.mem_of_getElem? (i := 248) rfl
theorem oF_RX7_74 : (RX7, 74, 9, 10) ∈ oft := List.mem_of_getElem? (i := 249) rfl
theorem oF_RX7_81 : (RX7, 81, 13, 1) ∈ oft := List.mem_of_getElem? (i := 250) rfl
theorem oF_RX7_86 : (RX7, 86, 9, 11) ∈ oft := List.mem_of_getElem? (i := 251) rfl
theorem oF_RX7_89 : (RX7, 89, 13, 2) ∈ oft := List.mem_of_getElem? (i := 252) rfl
theorem oF_RX7_92 : (RX7, 92, 13, 4) ∈ oft := List.mem_of_getElem? (i := 253) rfl
theorem oF_RX7_103 : (RX7, 103, 9, 12) ∈ oft := List.mem_of_getElem? (i := 254) rfl
theorem oF_RX7_128 : (RX7, 128, 6, 3) ∈ oft := List.mem_of_getElem? (i := 255) rfl
theorem oF_RX7_143 : (RX7, 143, 6, 0) ∈ oft := List.mem_of_getElem? (i := 256) rfl
theorem oF_RX7_155 : (RX7, 155, 6, 1) ∈ oft := List.mem_of_getElem? (i := 257) rfl
theorem oF_RX7_189 : (RX7, 189, 7, 15) ∈ oft := List.mem_of_getElem? (i := 258) rfl
theorem oF_RX7_192 : (RX7, 192, 7, 19) ∈ oft := List.mem_of_getElem? (i := 259) rfl
theorem oF_RX7_199 : (RX7, 199, 7, 17) ∈ oft := List.mem_of_getElem? (i := 260) rfl
theorem oF_RX7_202 : (RX7, 202, 7, 4) ∈ oft := List.mem_of_getElem? (i := 261) rfl
theorem oF_RX7_208 : (RX7, 208, 7, 9) ∈ oft := List.mem_of_getElem? (i := 262) rfl
theorem oF_RX7_212 : (RX7, 212, 7, 12) ∈ oft := List.mem_of_getElem? (i := 263) rfl
theorem oF_RX7_221 : (RX7, 221, 7, 10) ∈ oft := List.mem_of_getElem? (i := 264) rfl
theorem oF_RX7_223 : (RX7, 223, 7, 13) ∈ oft := List.mem_of_getElem? (i := 265) rfl
theorem oF_RX7_226 : (RX7, 226, 7, 0) ∈ oft := List.mem_of_getElem? (i := 266) rfl
theorem oF_RX7_235 : (RX7, 235, 7, 11) ∈ oft := List.mem_of_getElem? (i := 267) rfl
theorem oF_RX7_241 : (RX7, 241, 7, 7) ∈ oft := List.mem_of_getElem? (i := 268) rfl
theorem oF_RX7_244 : (RX7, 244, 9, 13) ∈ oft := List.mem_of_getElem? (i := 269) rfl
theorem oF_RX7_250 : (RX7, 250, 7, 14) ∈ oft := List.mem_of_getElem? (i := 270) rfl
theorem oF_RX7_255 : (RX7, 255, 7, 16) ∈ oft := List.mem_of_getElem? (i := 271) rfl
theorem oF_RX7_258 : (RX7, 258, 7, 3) ∈ oft := List.mem_of_getElem? (i := 272) rfl
theorem oF_RX7_271 : (RX7, 271, 7, 18) ∈ oft := List.mem_of_getElem? (i := 273) rfl
theorem oF_RX7_284 : (RX7, 284, 7, 1) ∈ oft := List.mem_of_getElem? (i := 274) rfl
theorem oF_RX7_292 : (RX7, 292, 7, 6) ∈ oft := List.mem_of_getElem? (i := 275) rfl
theorem oF_RX7_303 : (RX7, 303, 11, 3) ∈ oft := List.mem_of_getElem? (i := 276) rfl
theorem oF_RX7_307 : (RX7, 307, 7, 5) ∈ oft := List.mem_of_getElem? (i := 277) rfl
theorem oF_RX7_310 : (RX7, 310, 9, 14) ∈ oft := List.mem_of_getElem? (i := 278) rfl
theorem oF_RX8_7 : (RX8, 7, 10, 0) ∈ oft := List.mem_of_getElem? (i := 279) rfl
theorem oF_RX8_13 : (RX8, 13, 10, 1) ∈ oft := List.mem_of_getElem? (i := 280) rfl
theorem oF_RX8_17 : (RX8, 17, 10, 2) ∈ oft := List.mem_of_getElem? (i := 281) rfl
theorem oF_RX8_21 : (RX8, 21, 10, 3) ∈ oft := List.mem_of_getElem? (i := 282) rfl
theorem oF_RX9_9 : (RX9, 9, 11, 0) ∈ oft := List.mem_of_getElem? (i := 283) rfl
theorem oF_RX9_15 : (RX9, 15, 11, 1) ∈ oft := List.mem_of_getElem? (i := 284) rfl
theorem oF_RX9_19 : (RX9, 19, 11, 2) ∈ oft := List.mem_of_getElem? (i := 285) rfl
theorem oF_RX9_43 : (RX9, 43, 11, 3) ∈ oft := List.mem_of_getElem? (i := 286) rfl
theorem oCI_RJ11_76 : (RJ11, 76, (56320 : Int32)) ∈ oci := List.mem_of_getElem? (i := 0) rfl
theorem oCI_RJ11_110 : (RJ11, 110, (55232 : Int32)) ∈ oci := List.mem_of_getElem? (i := 1) rfl
theorem oCI_RJ2_20 : (RJ2, 20, (1073741823 : Int32)) ∈ oci := List.mem_of_getElem? (i := 2) rfl
theorem oCI_RJ2_227 : (RJ2, 227, (65536 : Int32)) ∈ oci := List.mem_of_getElem? (i := 3) rfl
theorem oCI_RJ8_200 : (RJ8, 200, (2147483639 : Int32)) ∈ oci := List.mem_of_getElem? (i := 4) rfl
theorem oCI_RX0_108 : (RX0, 108, (1000000 : Int32)) ∈ oci := List.mem_of_getElem? (i := 5) rfl
theorem oCI_RX10_99 : (RX10, 99, (1000000 : Int32)) ∈ oci := List.mem_of_getElem? (i := 6) rfl
theorem oCI_RX3_72 : (RX3, 72, (1000000 : Int32)) ∈ oci := List.mem_of_getElem? (i := 7) rfl
theorem oCI_RX7_302 : (RX7, 302, (1000000 : Int32)) ∈ oci := List.mem_of_getElem? (i := 8) rfl
theorem oCL_RX0_252 : (RX0, 252, (-1 : Int64)) ∈ ocl := List.mem_of_getElem? (i := 0) rfl
theorem oCL_RX1_163 : (RX1, 163, (2 : Int64)) ∈ ocl := List.mem_of_getElem? (i := 1) rfl
theorem oCL_RX12_283 : (RX12, 283, (10 : Int64)) ∈ ocl := List.mem_of_getElem? (i := 2) rfl
theorem oCL_RX12_285 : (RX12, 285, (48 : Int64)) ∈ ocl := List.mem_of_getElem? (i := 3) rfl
theorem oCL_RX3_245 : (RX3, 245, (1000 : Int64)) ∈ ocl := List.mem_of_getElem? (i := 4) rfl
theorem oCL_RX3_247 : (RX3, 247, (10000 : Int64)) ∈ ocl := List.mem_of_getElem? (i := 5) rfl
theorem oCL_RX3_254 : (RX3, 254, (1099511627776 : Int64)) ∈ ocl := List.mem_of_getElem? (i := 6) rfl
theorem oCL_RX6_31 : (RX6, 31, (1152921504606846976 : Int64)) ∈ ocl := List.mem_of_getElem? (i := 7) rfl
theorem oCL_RX6_58 : (RX6, 58, (-2 : Int64)) ∈ ocl := List.mem_of_getElem? (i := 8) rfl
theorem oCL_RX6_60 : (RX6, 60, (2 : Int64)) ∈ ocl := List.mem_of_getElem? (i := 9) rfl
theorem oN_RJ1_1 : (RJ1, 1, 0) ∈ onl := List.mem_of_getElem? (i := 0) rfl
theorem oN_RX0_9 : (RX0, 9, 1) ∈ onl := List.mem_of_getElem? (i := 1) rfl
theorem oN_RX0_27 : (RX0, 27, 6) ∈ onl := List.mem_of_getElem? (i := 2) rfl
theorem oN_RX0_61 : (RX0, 61, 4) ∈ onl := List.mem_of_getElem? (i := 3) rfl
theorem oN_RX0_73 : (RX0, 73, 10) ∈ onl := List.mem_of_getElem? (i := 4) rfl
theorem oN_RX0_177 : (RX0, 177, 11) ∈ onl := List.mem_of_getElem? (i := 5) rfl
theorem oN_RX1_9 : (RX1, 9, 8) ∈ onl := List.mem_of_getElem? (i := 6) rfl
theorem oN_RX12_23 : (RX12, 23, 1) ∈ onl := List.mem_of_getElem? (i := 7) rfl
theorem oN_RX12_30 : (RX12, 30, 3) ∈ onl := List.mem_of_getElem? (i := 8) rfl
theorem oN_RX12_37 : (RX12, 37, 5) ∈ onl := List.mem_of_getElem? (i := 9) rfl
theorem oN_RX12_66 : (RX12, 66, 13) ∈ onl := List.mem_of_getElem? (i := 10) rfl
theorem oN_RX12_68 : (RX12, 68, 0) ∈ onl := List.mem_of_getElem? (i := 11) rfl
theorem oN_RX12_83 : (RX12, 83, 9) ∈ onl := List.mem_of_getElem? (i := 12) rfl
theorem oN_RX12_96 : (RX12, 96, 12) ∈ onl := List.mem_of_getElem? (i := 13) rfl
theorem oN_RX12_134 : (RX12, 134, 2) ∈ onl := List.mem_of_getElem? (i := 14) rfl
theorem oN_RX2_8 : (RX2, 8, 4) ∈ onl := List.mem_of_getElem? (i := 15) rfl
theorem oN_RX7_9 : (RX7, 9, 6) ∈ onl := List.mem_of_getElem? (i := 16) rfl
theorem oN_RX7_17 : (RX7, 17, 1) ∈ onl := List.mem_of_getElem? (i := 17) rfl
theorem oN_RX7_101 : (RX7, 101, 7) ∈ onl := List.mem_of_getElem? (i := 18) rfl
theorem oN_RX7_261 : (RX7, 261, 11) ∈ onl := List.mem_of_getElem? (i := 19) rfl
theorem oN_RX9_10 : (RX9, 10, 11) ∈ onl := List.mem_of_getElem? (i := 20) rfl
theorem oA_RX0_27 : (RX0, 27, 6) ∈ oal := List.mem_of_getElem? (i := 0) rfl
theorem oA_RX0_177 : (RX0, 177, 11) ∈ oal := List.mem_of_getElem? (i := 1) rfl
theorem oA_RX1_18 : (RX1, 18, 7) ∈ oal := List.mem_of_getElem? (i := 2) rfl
theorem oA_RX1_28 : (RX1, 28, 6) ∈ oal := List.mem_of_getElem? (i := 3) rfl
theorem oA_RX2_29 : (RX2, 29, 11) ∈ oal := List.mem_of_getElem? (i := 4) rfl
theorem oA_RX2_85 : (RX2, 85, 6) ∈ oal := List.mem_of_getElem? (i := 5) rfl
theorem oA_RX3_24 : (RX3, 24, 7) ∈ oal := List.mem_of_getElem? (i := 6) rfl
theorem oA_RX7_9 : (RX7, 9, 6) ∈ oal := List.mem_of_getElem? (i := 7) rfl
theorem oA_RX9_7 : (RX9, 7, 6) ∈ oal := List.mem_of_getElem? (i := 8) rfl
theorem oK_RJ0_10 : (RJ0, 10, 0) ∈ okc := List.mem_of_getElem? (i := 0) rfl
theorem oK_RX0_27 : (RX0, 27, 6) ∈ okc := List.mem_of_getElem? (i := 1) rfl
theorem oK_RX0_61 : (RX0, 61, 4) ∈ okc := List.mem_of_getElem? (i := 2) rfl
theorem oK_RX0_73 : (RX0, 73, 10) ∈ okc := List.mem_of_getElem? (i := 3) rfl
theorem oK_RX0_90 : (RX0, 90, 7) ∈ okc := List.mem_of_getElem? (i := 4) rfl
theorem oK_RX1_18 : (RX1, 18, 7) ∈ okc := List.mem_of_getElem? (i := 5) rfl
theorem oK_RX10_60 : (RX10, 60, 6) ∈ okc := List.mem_of_getElem? (i := 6) rfl
theorem oK_RX10_107 : (RX10, 107, 7) ∈ okc := List.mem_of_getElem? (i := 7) rfl
theorem oK_RX12_168 : (RX12, 168, 6) ∈ okc := List.mem_of_getElem? (i := 8) rfl
theorem oK_RX3_24 : (RX3, 24, 7) ∈ okc := List.mem_of_getElem? (i := 9) rfl
theorem oK_RX3_119 : (RX3, 119, 6) ∈ okc := List.mem_of_getElem? (i := 10) rfl
theorem oO_RJ7_2 : (RJ7, 2) ∈ oOl := List.mem_of_getElem? (i := 0) rfl
theorem oO_RJx4a65c_7 : (RJx4a65c, 7) ∈ oOl := List.mem_of_getElem? (i := 1) rfl
theorem oI_RJ0_1 : (RJ0, 1) ∈ oil := List.mem_of_getElem? (i := 0) rfl
theorem oI_RJxa1e45_1 : (RJxa1e45, 1) ∈ oil := List.mem_of_getElem? (i := 1) rfl
theorem oI_RX0_3 : (RX0, 3) ∈ oil := List.mem_of_getElem? (i := 2) rfl
theorem oI_RX1_3 : (RX1, 3) ∈ oil := List.mem_of_getElem? (i := 3) rfl
theorem oI_RX10_3 : (RX10, 3) ∈ oil := List.mem_of_getElem? (i := 4) rfl
theorem oI_RX11_3 : (RX11, 3) ∈ oil := List.mem_of_getElem? (i := 5) rfl
theorem oI_RX12_1 : (RX12, 1) ∈ oil := List.mem_of_getElem? (i := 6) rfl
theorem oI_RX2_1 : (RX2, 1) ∈ oil := List.mem_of_getElem? (i := 7) rfl
theorem oI_RX3_5 : (RX3, 5) ∈ oil := List.mem_of_getElem? (i := 8) rfl
theorem oI_RX4_3 : (RX4, 3) ∈ oil := List.mem_of_getElem? (i := 9) rfl
theorem oI_RX5_1 : (RX5, 1) ∈ oil := List.mem_of_getElem? (i := 10) rfl
theorem oI_RX6_1 : (RX6, 1) ∈ oil := List.mem_of_getElem? (i := 11) rfl
theorem oI_RX7_3 : (RX7, 3) ∈ oil := List.mem_of_getElem? (i := 12) rfl
theorem oI_RX8_1 : (RX8, 1) ∈ oil := List.mem_of_getElem? (i := 13) rfl
theorem oI_RX9_1 : (RX9, 1) ∈ oil := List.mem_of_getElem? (i := 14) rfl
theorem oC_RJ7_150 : (RJ7, 150) ∈ ocp := List.mem_of_getElem? (i := 0) rfl
theorem oC_RX6_39 : (RX6, 39) ∈ ocp := List.mem_of_getElem? (i := 1) rfl
theorem oC_RX9_27 : (RX9, 27) ∈ ocp := List.mem_of_getElem? (i := 2) rfl
theorem ommax_RJ1_92 : (RJ1, 92) ∈ ommax := List.mem_of_getElem? (i := 0) rfl
theorem ommax_RJ2_224 : (RJ2, 224) ∈ ommax := List.mem_of_getElem? (i := 1) rfl
theorem ommax_RJ8_194 : (RJ8, 194) ∈ ommax := List.mem_of_getElem? (i := 2) rfl
theorem ommax_RJx4a65c_79 : (RJx4a65c, 79) ∈ ommax := List.mem_of_getElem? (i := 3) rfl
theorem ommax_RX0_130 : (RX0, 130) ∈ ommax := List.mem_of_getElem? (i := 4) rfl
theorem ommax_RX6_45 : (RX6, 45) ∈ ommax := List.mem_of_getElem? (i := 5) rfl
theorem ommin_RJ1_38 : (RJ1, 38) ∈ ommin := List.mem_of_getElem? (i := 0) rfl
theorem ommin_RJ2_183 : (RJ2, 183) ∈ ommin := List.mem_of_getElem? (i := 1) rfl
theorem ommin_RJ7_304 : (RJ7, 304) ∈ ommin := List.mem_of_getElem? (i := 2) rfl
theorem ommin_RX12_294 : (RX12, 294) ∈ ommin := List.mem_of_getElem? (i := 3) rfl
theorem omabs_RX1_209 : (RX1, 209) ∈ omabs := List.mem_of_getElem? (i := 0) rfl
theorem omabs_RX9_48 : (RX9, 48) ∈ omabs := List.mem_of_getElem? (i := 1) rfl
theorem omminL_RX6_62 : (RX6, 62) ∈ omminL := List.mem_of_getElem? (i := 0) rfl
theorem omabsL_RX12_277 : (RX12, 277) ∈ omabsL := List.mem_of_getElem? (i := 0) rfl
theorem omabsL_RX3_249 : (RX3, 249) ∈ omabsL := List.mem_of_getElem? (i := 1) rfl
theorem oT_0_0 : oty 0 0 = .array .byte := by decide +kernel
theorem oT_0_1 : oty 0 1 = .byte := by decide +kernel
theorem oT_0_2 : oty 0 2 = .int := by decide +kernel
theorem oT_0_3 : oty 0 3 = .boolean := by decide +kernel
theorem oT_1_0 : oty 1 0 = .int := by decide +kernel
theorem oT_1_1 : oty 1 1 = .array (.object "java/lang/Object") := by decide +kernel
theorem oT_1_2 : oty 1 2 = .int := by decide +kernel
theorem oT_2_0 : oty 2 0 = .object "LiquidTongue$Parser" := by decide +kernel
theorem oT_2_1 : oty 2 1 = .object "LiquidTongue$Typer" := by decide +kernel
theorem oT_2_2 : oty 2 2 = .object "LiquidTongue$Judge" := by decide +kernel
theorem oT_2_3 : oty 2 3 = .object "java/util/ArrayList" := by decide +kernel
theorem oT_2_4 : oty 2 4 = .object "java/util/ArrayList" := by decide +kernel
theorem oT_2_5 : oty 2 5 = .object "java/util/ArrayList" := by decide +kernel
theorem oT_2_6 : oty 2 6 = .object "java/util/ArrayList" := by decide +kernel
theorem oT_2_7 : oty 2 7 = .array (.object "LiquidTongue$Name") := by decide +kernel
theorem oT_2_8 : oty 2 8 = .int := by decide +kernel
theorem oT_2_9 : oty 2 9 = .int := by decide +kernel
theorem oT_3_0 : oty 3 0 = .object "LiquidTongue$Octagon" := by decide +kernel
theorem oT_3_1 : oty 3 1 = .array (.object "LiquidTongue$Node") := by decide +kernel
theorem oT_3_2 : oty 3 2 = .array .boolean := by decide +kernel
theorem oT_3_3 : oty 3 3 = .int := by decide +kernel
theorem oT_3_4 : oty 3 4 = .array (.object "LiquidTongue$Name") := by decide +kernel
theorem oT_3_5 : oty 3 5 = .array .boolean := by decide +kernel
theorem oT_3_6 : oty 3 6 = .int := by decide +kernel
theorem oT_3_7 : oty 3 7 = .int := by decide +kernel
theorem oT_3_8 : oty 3 8 = .object "LiquidTongue$Known" := by decide +kernel
theorem oT_3_9 : oty 3 9 = .boolean := by decide +kernel
theorem oT_4_0 : oty 4 0 = .int := by decide +kernel
theorem oT_4_1 : oty 4 1 = .object "LiquidTongue$Known" := by decide +kernel
theorem oT_4_2 : oty 4 2 = .object "LiquidTongue$Name" := by decide +kernel
theorem oT_4_3 : oty 4 3 = .object "LiquidTongue$Known" := by decide +kernel
theorem oT_4_4 : oty 4 4 = .object "LiquidTongue$Known" := by decide +kernel
theorem oT_4_5 : oty 4 5 = .array .int := by decide +kernel
theorem oT_4_6 : oty 4 6 = .array (.object "LiquidTongue$Sum") := by decide +kernel
theorem oT_4_7 : oty 4 7 = .int := by decide +kernel
theorem oT_4_8 : oty 4 8 = .int := by decide +kernel
theorem oT_4_9 : oty 4 9 = .array (.object "LiquidTongue$Name") := by decide +kernel
theorem oT_4_10 : oty 4 10 = .array (.object "LiquidTongue$Sum") := by decide +kernel
theorem oT_4_11 : oty 4 11 = .int := by decide +kernel
theorem oT_4_12 : oty 4 12 = .int := by decide +kernel
theorem oT_4_13 : oty 4 13 = .object "LiquidTongue$Name" := by decide +kernel
theorem oT_4_14 : oty 4 14 = .long := by decide +kernel
theorem oT_5_0 : oty 5 0 = .object "LiquidTongue$Parser" := by decide +kernel
theorem oT_5_1 : oty 5 1 = .int := by decide +kernel
theorem oT_5_2 : oty 5 2 = .array .long := by decide +kernel
theorem oT_5_3 : oty 5 3 = .array (.array .int) := by decide +kernel
theorem oT_5_4 : oty 5 4 = .array .long := by decide +kernel
theorem oT_5_5 : oty 5 5 = .int := by decide +kernel
theorem oT_5_6 : oty 5 6 = .array (.object "LiquidTongue$Node") := by decide +kernel
theorem oT_5_7 : oty 5 7 = .array .int := by decide +kernel
theorem oT_5_8 : oty 5 8 = .array .int := by decide +kernel
theorem oT_5_9 : oty 5 9 = .int := by decide +kernel
theorem oT_5_10 : oty 5 10 = .int := by decide +kernel
theorem oT_5_11 : oty 5 11 = .int := by decide +kernel
theorem oT_5_12 : oty 5 12 = .int := by decide +kernel
theorem oT_5_13 : oty 5 13 = .int := by decide +kernel
theorem oT_5_14 : oty 5 14 = .int := by decide +kernel
theorem oT_5_15 : oty 5 15 = .long := by decide +kernel
theorem oT_5_16 : oty 5 16 = .long := by decide +kernel
theorem oT_5_17 : oty 5 17 = .int := by decide +kernel
theorem oT_6_0 : oty 6 0 = .object "java/lang/String" := by decide +kernel
theorem oT_6_1 : oty 6 1 = .int := by decide +kernel
theorem oT_6_2 : oty 6 2 = .int := by decide +kernel
theorem oT_6_3 : oty 6 3 = .int := by decide +kernel
theorem oT_6_4 : oty 6 4 = .object "LiquidTongue$Known" := by decide +kernel
theorem oT_6_5 : oty 6 5 = .array (.object "LiquidTongue$Sum") := by decide +kernel
theorem oT_6_6 : oty 6 6 = .int := by decide +kernel
theorem oT_6_7 : oty 6 7 = .int := by decide +kernel
theorem oT_7_0 : oty 7 0 = .int := by decide +kernel
theorem oT_7_1 : oty 7 1 = .int := by decide +kernel
theorem oT_7_2 : oty 7 2 = .int := by decide +kernel
theorem oT_7_3 : oty 7 3 = .int := by decide +kernel
theorem oT_7_4 : oty 7 4 = .int := by decide +kernel
theorem oT_7_5 : oty 7 5 = .int := by decide +kernel
theorem oT_7_6 : oty 7 6 = .int := by decide +kernel
theorem oT_7_7 : oty 7 7 = .int := by decide +kernel
theorem oT_7_8 : oty 7 8 = .int := by decide +kernel
theorem oT_7_9 : oty 7 9 = .object "LiquidTongue$Name" := by decide +kernel
theorem oT_7_10 : oty 7 10 = .object "LiquidTongue$Name" := by decide +kernel
theorem oT_7_11 : oty 7 11 = .object "java/util/ArrayList" := by decide +kernel
theorem oT_7_12 : oty 7 12 = .object "LiquidTongue$Node" := by decide +kernel
theorem oT_7_13 : oty 7 13 = .object "LiquidTongue$Node" := by decide +kernel
theorem oT_7_14 : oty 7 14 = .object "LiquidTongue$Node" := by decide +kernel
theorem oT_7_15 : oty 7 15 = .object "LiquidTongue$Node" := by decide +kernel
theorem oT_7_16 : oty 7 16 = .object "LiquidTongue$Node" := by decide +kernel
theorem oT_7_17 : oty 7 17 = .object "LiquidTongue$Node" := by decide +kernel
theorem oT_7_18 : oty 7 18 = .object "java/util/ArrayList" := by decide +kernel
theorem oT_7_19 : oty 7 19 = .object "LiquidTongue$Sum" := by decide +kernel
theorem oT_7_20 : oty 7 20 = .object "LiquidTongue$Scope" := by decide +kernel
theorem oT_8_0 : oty 8 0 = .array .long := by decide +kernel
theorem oT_8_1 : oty 8 1 = .int := by decide +kernel
theorem oT_8_2 : oty 8 2 = .int := by decide +kernel
theorem oT_8_3 : oty 8 3 = .boolean := by decide +kernel
theorem oT_8_4 : oty 8 4 = .boolean := by decide +kernel
theorem oT_9_0 : oty 9 0 = .object "LiquidTongue$Words" := by decide +kernel
theorem oT_9_1 : oty 9 1 = .array (.object "LiquidTongue$Name") := by decide +kernel
theorem oT_9_2 : oty 9 2 = .object "java/util/ArrayList" := by decide +kernel
theorem oT_9_3 : oty 9 3 = .object "java/util/ArrayList" := by decide +kernel
theorem oT_9_4 : oty 9 4 = .array .int := by decide +kernel
theorem oT_9_5 : oty 9 5 = .array .int := by decide +kernel
theorem oT_9_6 : oty 9 6 = .array .int := by decide +kernel
theorem oT_9_7 : oty 9 7 = .array .int := by decide +kernel
theorem oT_9_8 : oty 9 8 = .int := by decide +kernel
theorem oT_9_9 : oty 9 9 = .int := by decide +kernel
theorem oT_9_10 : oty 9 10 = .object "LiquidTongue$Node" := by decide +kernel
theorem oT_9_11 : oty 9 11 = .int := by decide +kernel
theorem oT_9_12 : oty 9 12 = .int := by decide +kernel
theorem oT_9_13 : oty 9 13 = .int := by decide +kernel
theorem oT_9_14 : oty 9 14 = .int := by decide +kernel
theorem oT_9_15 : oty 9 15 = .int := by decide +kernel
theorem oT_9_16 : oty 9 16 = .int := by decide +kernel
theorem oT_9_17 : oty 9 17 = .int := by decide +kernel
theorem oT_10_0 : oty 10 0 = .object "LiquidTongue$Name" := by decide +kernel
theorem oT_10_1 : oty 10 1 = .object "LiquidTongue$Node" := by decide +kernel
theorem oT_10_2 : oty 10 2 = .boolean := by decide +kernel
theorem oT_10_3 : oty 10 3 = .object "LiquidTongue$Scope" := by decide +kernel
theorem oT_11_0 : oty 11 0 = .array (.object "LiquidTongue$Name") := by decide +kernel
theorem oT_11_1 : oty 11 1 = .array .int := by decide +kernel
theorem oT_11_2 : oty 11 2 = .int := by decide +kernel
theorem oT_11_3 : oty 11 3 = .long := by decide +kernel
theorem oT_12_0 : oty 12 0 = .array .int := by decide +kernel
theorem oT_12_1 : oty 12 1 = .array .int := by decide +kernel
theorem oT_12_2 : oty 12 2 = .array .int := by decide +kernel
theorem oT_12_3 : oty 12 3 = .array .int := by decide +kernel
theorem oT_12_4 : oty 12 4 = .array .int := by decide +kernel
theorem oT_12_5 : oty 12 5 = .array .int := by decide +kernel
theorem oT_12_6 : oty 12 6 = .int := by decide +kernel
theorem oT_12_7 : oty 12 7 = .int := by decide +kernel
theorem oT_12_8 : oty 12 8 = .int := by decide +kernel
theorem oT_12_9 : oty 12 9 = .int := by decide +kernel
theorem oT_13_0 : oty 13 0 = .object "java/lang/String" := by decide +kernel
theorem oT_13_1 : oty 13 1 = .array .int := by decide +kernel
theorem oT_13_2 : oty 13 2 = .array .int := by decide +kernel
theorem oT_13_3 : oty 13 3 = .array .int := by decide +kernel
theorem oT_13_4 : oty 13 4 = .int := by decide +kernel
theorem oT_13_5 : oty 13 5 = .int := by decide +kernel
theorem oT_14_0 : oty 14 0 = .array .byte := by decide +kernel
theorem oT_14_1 : oty 14 1 = .int := by decide +kernel
theorem oT_14_2 : oty 14 2 = .object "LiquidTongue$Parser" := by decide +kernel
theorem oT_14_3 : oty 14 3 = .object "LiquidTongue$Typer" := by decide +kernel
theorem oT_14_4 : oty 14 4 = .object "LiquidTongue$Checker" := by decide +kernel
theorem oT_14_5 : oty 14 5 = .int := by decide +kernel
theorem oT_14_6 : oty 14 6 = .array .byte := by decide +kernel
theorem oT_14_7 : oty 14 7 = .array .byte := by decide +kernel
theorem oT_14_8 : oty 14 8 = .int := by decide +kernel
theorem oT_14_9 : oty 14 9 = .int := by decide +kernel
theorem oT_14_10 : oty 14 10 = .object "java/util/ArrayList" := by decide +kernel
theorem oT_14_11 : oty 14 11 = .object "LiquidTongue$Judge" := by decide +kernel
theorem oT_14_12 : oty 14 12 = .object "LiquidTongue$Machine" := by decide +kernel
theorem opn_I {ty : FieldType} (h : ty = .int) {x : Int32} : narrow ty (.int x) = .int x ∧ fits ty (.int x) = true := by subst h; exact ⟨rfl, rfl⟩
theorem opn_J {ty : FieldType} (h : ty = .long) {x : Int64} : narrow ty (.long x) = .long x ∧ fits ty (.long x) = true := by subst h; exact ⟨rfl, rfl⟩
theorem opn_Z {ty : FieldType} (h : ty = .boolean) {x : Int32} (b : zbo x = true) : narrow ty (.int x) = .int x ∧ fits ty (.int x) = true := by subst h; exact ⟨zbo_n b, zbo_f b⟩
theorem opn_B {ty : FieldType} (h : ty = .byte) {x : Int32} (b : oby x = true) : narrow ty (.int x) = .int x ∧ fits ty (.int x) = true := by
  subst h
  simp only [oby, Bool.and_eq_true] at b
  exact ⟨of_decide_eq_true b.1, b.2⟩
theorem oM_0 : omt[0]? = some (yX0_init, cX0_init, 4, 3, 2, none, RX0) := rfl
theorem oM_1 : omt[1]? = some (yX2_init, cX2_init, 2, 1, 2, none, RX2) := rfl
theorem oM_2 : omt[2]? = some (yX8_init, cX8_init, 3, 2, 2, none, RX8) := rfl
theorem oM_3 : omt[3]? = some (yX2_init_, cX2_init_, 4, 3, 2, none, RX2) := rfl
theorem oM_4 : omt[4]? = some (yX2_answered, cX2_answered, 6, 1, 0, (some (.object "LiquidTongue$Known")), RX2) := rfl
theorem oM_5 : omt[5]? = some (yX2_taken, cX2_taken, 1, 0, 0, (some (.object "LiquidTongue$Known")), RX2) := rfl
theorem oM_6 : omt[6]? = some (yX4_isMeasured, cX4_isMeasured, 1, 0, 0, (some .boolean), RX4) := rfl
theorem oM_7 : omt[7]? = some (yX4_init, cX4_init, 3, 2, 2, none, RX4) := rfl
theorem oM_8 : omt[8]? = some (yX9_init, cX9_init, 1, 0, 2, none, RX9) := rfl
theorem oM_9 : omt[9]? = some (yX9_append, cX9_append, 3, 1, 0, none, RX9) := rfl
theorem oM_10 : omt[10]? = some (yX9_add, cX9_add, 4, 2, 0, none, RX9) := rfl
theorem oM_11 : omt[11]? = some (yX9_of, cX9_of, 5, 3, 1, (some (.object "LiquidTongue$Sum")), RX9) := rfl
theorem oM_12 : omt[12]? = some (yX0_fit, cX0_fit, 11, 3, 0, none, RX0) := rfl
theorem oM_13 : omt[13]? = some (yX8_init_, cX8_init_, 4, 3, 2, none, RX8) := rfl
theorem oM_14 : omt[14]? = some (yX9_isTerm, cX9_isTerm, 1, 0, 0, (some .boolean), RX9) := rfl
theorem oM_15 : omt[15]? = some (yX2_makeRoom, cX2_makeRoom, 2, 1, 0, none, RX2) := rfl
theorem oM_16 : omt[16]? = some (yX2_say, cX2_say, 3, 2, 0, none, RX2) := rfl
theorem oM_17 : omt[17]? = some (yX2_of, cX2_of, 3, 2, 1, (some (.object "LiquidTongue$Known")), RX2) := rfl
theorem oM_18 : omt[18]? = some (yX0_product, cX0_product, 3, 2, 1, (some (.object "LiquidTongue$Known")), RX0) := rfl
theorem oM_19 : omt[19]? = some (yX0_remainder, cX0_remainder, 2, 1, 1, (some (.object "LiquidTongue$Known")), RX0) := rfl
theorem oM_20 : omt[20]? = some (yX0_plain, cX0_plain, 1, 1, 1, (some (.object "LiquidTongue$Known")), RX0) := rfl
theorem oM_21 : omt[21]? = some (yX10_root, cX10_root, 4, 1, 0, (some .int), RX10) := rfl
theorem oM_22 : omt[22]? = some (yX10_kindOf, cX10_kindOf, 3, 1, 0, (some .int), RX10) := rfl
theorem oM_23 : omt[23]? = some (yX10_takenBy, cX10_takenBy, 2, 1, 0, (some .int), RX10) := rfl
theorem oM_24 : omt[24]? = some (yX10_answeredBy, cX10_answeredBy, 2, 1, 0, (some .int), RX10) := rfl
theorem oM_25 : omt[25]? = some (yX0_instance, cX0_instance, 3, 2, 0, (some (.object "LiquidTongue$Sum")), RX0) := rfl
theorem oM_26 : omt[26]? = some (yX0_sayInstances, cX0_sayInstances, 5, 1, 0, none, RX0) := rfl
theorem oM_27 : omt[27]? = some (yX0_shape, cX0_shape, 7, 3, 0, (some (.object "LiquidTongue$Known")), RX0) := rfl
theorem oM_28 : omt[28]? = some (yX0_template, cX0_template, 6, 3, 0, (some (.object "LiquidTongue$Known")), RX0) := rfl
theorem oM_29 : omt[29]? = some (yX0_fitBody, cX0_fitBody, 7, 3, 0, none, RX0) := rfl
theorem oM_30 : omt[30]? = some (yX0_walk, cX0_walk, 3, 2, 0, (some (.object "LiquidTongue$Known")), RX0) := rfl
theorem oM_31 : omt[31]? = some (yX0_walkCall, cX0_walkCall, 7, 2, 0, (some (.object "LiquidTongue$Known")), RX0) := rfl
theorem oM_32 : omt[32]? = some (yX0_walkFunction, cX0_walkFunction, 4, 2, 0, (some (.object "LiquidTongue$Known")), RX0) := rfl
theorem oM_33 : omt[33]? = some (yX0_walkIf, cX0_walkIf, 6, 2, 0, (some (.object "LiquidTongue$Known")), RX0) := rfl
theorem oM_34 : omt[34]? = some (yX0_walkLet, cX0_walkLet, 5, 2, 0, (some (.object "LiquidTongue$Known")), RX0) := rfl
theorem oM_35 : omt[35]? = some (yX0_walkMatch, cX0_walkMatch, 6, 2, 0, (some (.object "LiquidTongue$Known")), RX0) := rfl
theorem oM_36 : omt[36]? = some (yX0_walkRec, cX0_walkRec, 6, 2, 0, (some (.object "LiquidTongue$Known")), RX0) := rfl
theorem oM_37 : omt[37]? = some (yX0_gather, cX0_gather, 4, 0, 0, none, RX0) := rfl
theorem oM_38 : omt[38]? = some (yX9_isFact, cX9_isFact, 1, 0, 0, (some .boolean), RX9) := rfl
theorem oM_39 : omt[39]? = some (yX1_isFormed, cX1_isFormed, 4, 1, 1, (some .boolean), RX1) := rfl
theorem oM_40 : omt[40]? = some (yX6_makeRoom, cX6_makeRoom, 2, 1, 0, none, RX6) := rfl
theorem oM_41 : omt[41]? = some (yX6_reset, cX6_reset, 3, 1, 0, none, RX6) := rfl
theorem oM_42 : omt[42]? = some (yX6_lead, cX6_lead, 11, 3, 0, none, RX6) := rfl
theorem oM_43 : omt[43]? = some (yX6_tighten, cX6_tighten, 8, 0, 0, none, RX6) := rfl
theorem oM_44 : omt[44]? = some (yX6_limit, cX6_limit, 7, 3, 0, none, RX6) := rfl
theorem oM_45 : omt[45]? = some (yX2_insteadOf, cX2_insteadOf, 3, 1, 0, (some (.object "LiquidTongue$Sum")), RX2) := rfl
theorem oM_46 : omt[46]? = some (yX2_recall, cX2_recall, 4, 1, 0, none, RX2) := rfl
theorem oM_47 : omt[47]? = some (yX1_side, cX1_side, 2, 2, 1, (some .int), RX1) := rfl
theorem oM_48 : omt[48]? = some (yX6_isLimited, cX6_isLimited, 5, 3, 0, (some .boolean), RX6) := rfl
theorem oM_49 : omt[49]? = some (yX1_meet, cX1_meet, 12, 3, 0, (some .boolean), RX1) := rfl
theorem oM_50 : omt[50]? = some (yX1_learn, cX1_learn, 4, 2, 0, none, RX1) := rfl
theorem oM_51 : omt[51]? = some (yX1_postpone, cX1_postpone, 3, 2, 0, none, RX1) := rfl
theorem oM_52 : omt[52]? = some (yX1_choose, cX1_choose, 4, 2, 0, none, RX1) := rfl
theorem oM_53 : omt[53]? = some (yX1_opposite, cX1_opposite, 1, 1, 1, (some .int), RX1) := rfl
theorem oM_54 : omt[54]? = some (yX1_limit, cX1_limit, 9, 3, 0, none, RX1) := rfl
theorem oM_55 : omt[55]? = some (yX1_compare, cX1_compare, 4, 2, 0, none, RX1) := rfl
theorem oM_56 : omt[56]? = some (yX1_assume, cX1_assume, 4, 2, 0, none, RX1) := rfl
theorem oM_57 : omt[57]? = some (yX1_begin, cX1_begin, 5, 2, 0, none, RX1) := rfl
theorem oM_58 : omt[58]? = some (yX6_close, cX6_close, 3, 0, 0, none, RX6) := rfl
theorem oM_59 : omt[59]? = some (yX1_conclude, cX1_conclude, 4, 0, 0, none, RX1) := rfl
theorem oM_60 : omt[60]? = some (yX1_isDecided, cX1_isDecided, 1, 0, 0, (some .boolean), RX1) := rfl
theorem oM_61 : omt[61]? = some (yX6_rise, cX6_rise, 2, 0, 0, none, RX6) := rfl
theorem oM_62 : omt[62]? = some (yX6_sink, cX6_sink, 1, 0, 0, none, RX6) := rfl
theorem oM_63 : omt[63]? = some (yX1_explore, cX1_explore, 8, 1, 0, none, RX1) := rfl
theorem oM_64 : omt[64]? = some (yX1_isSure, cX1_isSure, 3, 2, 0, (some .boolean), RX1) := rfl
theorem oM_65 : omt[65]? = some (yX0_findDoubt, cX0_findDoubt, 3, 0, 0, none, RX0) := rfl
theorem oM_66 : omt[66]? = some (yX0_lastChange, cX0_lastChange, 4, 1, 0, (some .int), RX0) := rfl
theorem oM_67 : omt[67]? = some (yX1_weaken, cX1_weaken, 5, 3, 0, (some .boolean), RX1) := rfl
theorem oM_68 : omt[68]? = some (yX0_weakenAll, cX0_weakenAll, 7, 0, 0, none, RX0) := rfl
theorem oM_69 : omt[69]? = some (yX6_init, cX6_init, 1, 0, 2, none, RX6) := rfl
theorem oM_70 : omt[70]? = some (yX1_init, cX1_init, 1, 0, 2, none, RX1) := rfl
theorem oM_71 : omt[71]? = some (yX3_init, cX3_init, 1, 0, 2, none, RX3) := rfl
theorem oM_72 : omt[72]? = some (yX3_forget, cX3_forget, 1, 0, 0, none, RX3) := rfl
theorem oM_73 : omt[73]? = some (yX3_take, cX3_take, 3, 2, 0, none, RX3) := rfl
theorem oM_74 : omt[74]? = some (yX3_set, cX3_set, 4, 3, 0, (some .boolean), RX3) := rfl
theorem oM_75 : omt[75]? = some (yX3_setElement, cX3_setElement, 4, 3, 0, (some .boolean), RX3) := rfl
theorem oM_76 : omt[76]? = some (yX3_room, cX3_room, 2, 1, 0, (some .int), RX3) := rfl
theorem oM_77 : omt[77]? = some (yX3_array, cX3_array, 4, 1, 0, (some .int), RX3) := rfl
theorem oM_78 : omt[78]? = some (yX3_givenArray, cX3_givenArray, 4, 1, 0, (some .long), RX3) := rfl
theorem oM_79 : omt[79]? = some (yX3_pair, cX3_pair, 5, 2, 0, (some .int), RX3) := rfl
theorem oM_80 : omt[80]? = some (yX3_begin, cX3_begin, 3, 0, 0, none, RX3) := rfl
theorem oM_81 : omt[81]? = some (yX3_await, cX3_await, 4, 3, 0, none, RX3) := rfl
theorem oM_82 : omt[82]? = some (yX3_triple, cX3_triple, 8, 3, 0, (some .int), RX3) := rfl
theorem oM_83 : omt[83]? = some (yX3_valueOf, cX3_valueOf, 5, 2, 0, (some .long), RX3) := rfl
theorem oM_84 : omt[84]? = some (yX3_measure, cX3_measure, 5, 2, 0, (some .long), RX3) := rfl
theorem oM_85 : omt[85]? = some (yX3_sum, cX3_sum, 6, 1, 0, (some .long), RX3) := rfl
theorem oM_86 : omt[86]? = some (yX3_stands, cX3_stands, 7, 3, 0, (some .boolean), RX3) := rfl
theorem oM_87 : omt[87]? = some (yX3_holds, cX3_holds, 4, 1, 0, (some .boolean), RX3) := rfl
theorem oM_88 : omt[88]? = some (yX3_elementOf, cX3_elementOf, 5, 1, 0, (some .int), RX3) := rfl
theorem oM_89 : omt[89]? = some (yX3_change, cX3_change, 5, 1, 0, none, RX3) := rfl
theorem oM_90 : omt[90]? = some (yX3_match, cX3_match, 3, 1, 0, (some (.object "LiquidTongue$Node")), RX3) := rfl
theorem oM_91 : omt[91]? = some (yX3_argument, cX3_argument, 2, 1, 0, (some .long), RX3) := rfl
theorem oM_92 : omt[92]? = some (yX3_apply, cX3_apply, 7, 2, 0, (some (.object "LiquidTongue$Node")), RX3) := rfl
theorem oM_93 : omt[93]? = some (yX3_call, cX3_call, 6, 1, 0, (some (.object "LiquidTongue$Node")), RX3) := rfl
theorem oM_94 : omt[94]? = some (yX3_newArray, cX3_newArray, 3, 1, 0, (some .long), RX3) := rfl
theorem oM_95 : omt[95]? = some (yX3_cons, cX3_cons, 6, 1, 0, (some .long), RX3) := rfl
theorem oM_96 : omt[96]? = some (yX3_product, cX3_product, 6, 2, 0, (some .long), RX3) := rfl
theorem oM_97 : omt[97]? = some (yX3_quotient, cX3_quotient, 6, 1, 0, (some .long), RX3) := rfl
theorem oM_98 : omt[98]? = some (yX3_plain, cX3_plain, 2, 1, 0, (some .long), RX3) := rfl
theorem oM_99 : omt[99]? = some (yX3_start, cX3_start, 3, 1, 0, (some (.object "LiquidTongue$Node")), RX3) := rfl
theorem oM_100 : omt[100]? = some (yX3_resume, cX3_resume, 3, 0, 0, (some (.object "LiquidTongue$Node")), RX3) := rfl
theorem oM_101 : omt[101]? = some (yX3_go, cX3_go, 4, 1, 0, (some .int), RX3) := rfl
theorem oM_102 : omt[102]? = some (yX5_init, cX5_init, 4, 3, 2, none, RX5) := rfl
theorem oM_103 : omt[103]? = some (yX7_init, cX7_init, 2, 1, 2, none, RX7) := rfl
theorem oM_104 : omt[104]? = some (yX7_kind, cX7_kind, 1, 0, 0, (some .int), RX7) := rfl
theorem oM_105 : omt[105]? = some (yX7_next, cX7_next, 1, 0, 0, none, RX7) := rfl
theorem oM_106 : omt[106]? = some (yX7_here, cX7_here, 1, 0, 0, (some .int), RX7) := rfl
theorem oM_107 : omt[107]? = some (yX7_fail, cX7_fail, 1, 0, 0, none, RX7) := rfl
theorem oM_108 : omt[108]? = some (yX7_expect, cX7_expect, 2, 1, 0, none, RX7) := rfl
theorem oM_109 : omt[109]? = some (yX7_isRelation, cX7_isRelation, 1, 1, 1, (some .boolean), RX7) := rfl
theorem oM_110 : omt[110]? = some (yX11_numberOf, cX11_numberOf, 4, 1, 0, (some .int), RX11) := rfl
theorem oM_111 : omt[111]? = some (yX7_readQualTerm, cX7_readQualTerm, 2, 0, 0, none, RX7) := rfl
theorem oM_112 : omt[112]? = some (yX7_readQual, cX7_readQual, 2, 0, 0, none, RX7) := rfl
theorem oM_113 : omt[113]? = some (yX11_textOf, cX11_textOf, 2, 1, 0, (some (.object "java/lang/String")), RX11) := rfl
theorem oM_114 : omt[114]? = some (yX7_counts, cX7_counts, 3, 1, 0, (some (.object "LiquidTongue$Name")), RX7) := rfl
theorem oM_115 : omt[115]? = some (yX7_tell, cX7_tell, 2, 0, 0, (some (.object "LiquidTongue$Name")), RX7) := rfl
theorem oM_116 : omt[116]? = some (yX7_count, cX7_count, 2, 1, 0, none, RX7) := rfl
theorem oM_117 : omt[117]? = some (yX7_readInput, cX7_readInput, 3, 0, 0, none, RX7) := rfl
theorem oM_118 : omt[118]? = some (yX7_node, cX7_node, 2, 1, 0, (some (.object "LiquidTongue$Node")), RX7) := rfl
theorem oM_119 : omt[119]? = some (yX7_use, cX7_use, 2, 0, 0, (some (.object "LiquidTongue$Name")), RX7) := rfl
theorem oM_120 : omt[120]? = some (yX7_sum_, cX7_sum_, 8, 1, 0, (some (.object "LiquidTongue$Node")), RX7) := rfl
theorem oM_121 : omt[121]? = some (yX7_sum, cX7_sum, 1, 0, 0, (some (.object "LiquidTongue$Node")), RX7) := rfl
theorem oM_122 : omt[122]? = some (yX7_blameForm, cX7_blameForm, 2, 1, 0, none, RX7) := rfl
theorem oM_123 : omt[123]? = some (yX7_compare, cX7_compare, 4, 2, 0, (some (.object "LiquidTongue$Node")), RX7) := rfl
theorem oM_124 : omt[124]? = some (yX9_addAll, cX9_addAll, 4, 2, 0, none, RX9) := rfl
theorem oM_125 : omt[125]? = some (yX7_comparison, cX7_comparison, 2, 1, 0, (some (.object "LiquidTongue$Node")), RX7) := rfl
theorem oM_126 : omt[126]? = some (yX7_both, cX7_both, 5, 1, 0, (some (.object "LiquidTongue$Node")), RX7) := rfl
theorem oM_127 : omt[127]? = some (yX7_either, cX7_either, 5, 1, 0, (some (.object "LiquidTongue$Node")), RX7) := rfl
theorem oM_128 : omt[128]? = some (yX7_single, cX7_single, 3, 1, 0, (some (.object "LiquidTongue$Node")), RX7) := rfl
theorem oM_129 : omt[129]? = some (yX7_test, cX7_test, 5, 1, 0, (some (.object "LiquidTongue$Node")), RX7) := rfl
theorem oM_130 : omt[130]? = some (yX7_beginsArgument, cX7_beginsArgument, 1, 1, 1, (some .boolean), RX7) := rfl
theorem oM_131 : omt[131]? = some (yX7_beFunction, cX7_beFunction, 2, 1, 0, none, RX7) := rfl
theorem oM_132 : omt[132]? = some (yX7_tellParameter, cX7_tellParameter, 3, 1, 0, none, RX7) := rfl
theorem oM_133 : omt[133]? = some (yX7_readIndex, cX7_readIndex, 3, 1, 0, none, RX7) := rfl
theorem oM_134 : omt[134]? = some (yX7_argument, cX7_argument, 4, 1, 0, (some (.object "LiquidTongue$Node")), RX7) := rfl
theorem oM_135 : omt[135]? = some (yX7_expression, cX7_expression, 3, 1, 0, (some (.object "LiquidTongue$Node")), RX7) := rfl
theorem oM_136 : omt[136]? = some (yX7_readAssert, cX7_readAssert, 4, 2, 0, none, RX7) := rfl
theorem oM_137 : omt[137]? = some (yX7_readCall, cX7_readCall, 4, 1, 0, (some (.object "LiquidTongue$Node")), RX7) := rfl
theorem oM_138 : omt[138]? = some (yX7_readFunction, cX7_readFunction, 3, 2, 0, none, RX7) := rfl
theorem oM_139 : omt[139]? = some (yX7_readIf, cX7_readIf, 4, 2, 0, none, RX7) := rfl
theorem oM_140 : omt[140]? = some (yX7_readLet, cX7_readLet, 3, 2, 0, none, RX7) := rfl
theorem oM_141 : omt[141]? = some (yX7_readMatch, cX7_readMatch, 3, 2, 0, none, RX7) := rfl
theorem oM_142 : omt[142]? = some (yX7_readOpen, cX7_readOpen, 5, 1, 0, (some (.object "LiquidTongue$Node")), RX7) := rfl
theorem oM_143 : omt[143]? = some (yX7_readRec, cX7_readRec, 4, 2, 0, none, RX7) := rfl
theorem oM_144 : omt[144]? = some (yX7_readSet, cX7_readSet, 3, 2, 0, none, RX7) := rfl
theorem oM_145 : omt[145]? = some (yX7_readProgram, cX7_readProgram, 1, 0, 0, none, RX7) := rfl
theorem oM_146 : omt[146]? = some (yX10_make, cX10_make, 2, 1, 0, (some .int), RX10) := rfl
theorem oM_147 : omt[147]? = some (yX10_init, cX10_init, 3, 1, 2, none, RX10) := rfl
theorem oM_148 : omt[148]? = some (yX10_basic, cX10_basic, 1, 1, 1, (some .int), RX10) := rfl
theorem oM_149 : omt[149]? = some (yX10_function, cX10_function, 4, 2, 0, (some .int), RX10) := rfl
theorem oM_150 : omt[150]? = some (yX10_unify, cX10_unify, 7, 2, 0, (some .boolean), RX10) := rfl
theorem oM_151 : omt[151]? = some (yX10_isFinite, cX10_isFinite, 7, 1, 0, (some .boolean), RX10) := rfl
theorem oM_152 : omt[152]? = some (yX10_must, cX10_must, 4, 3, 0, none, RX10) := rfl
theorem oM_153 : omt[153]? = some (yX10_checkSum, cX10_checkSum, 4, 1, 0, none, RX10) := rfl
theorem oM_154 : omt[154]? = some (yX10_checkTest, cX10_checkTest, 3, 1, 0, none, RX10) := rfl
theorem oM_155 : omt[155]? = some (yX10_inferPlain, cX10_inferPlain, 2, 1, 0, (some .int), RX10) := rfl
theorem oM_156 : omt[156]? = some (yX10_infer, cX10_infer, 2, 1, 0, (some .int), RX10) := rfl
theorem oM_157 : omt[157]? = some (yX10_inferCall, cX10_inferCall, 6, 1, 0, none, RX10) := rfl
theorem oM_158 : omt[158]? = some (yX10_inferMatch, cX10_inferMatch, 2, 1, 0, none, RX10) := rfl
theorem oM_159 : omt[159]? = some (yX10_inferRec, cX10_inferRec, 4, 1, 0, none, RX10) := rfl
theorem oM_160 : omt[160]? = some (yX10_leavesOf, cX10_leavesOf, 6, 1, 0, (some .int), RX10) := rfl
theorem oM_161 : omt[161]? = some (yX10_countTemplates, cX10_countTemplates, 3, 1, 0, none, RX10) := rfl
theorem oM_162 : omt[162]? = some (yX10_findAll, cX10_findAll, 3, 1, 0, none, RX10) := rfl
theorem oM_163 : omt[163]? = some (yX11_isLetter, cX11_isLetter, 1, 1, 1, (some .boolean), RX11) := rfl
theorem oM_164 : omt[164]? = some (yX11_isDigit, cX11_isDigit, 1, 1, 1, (some .boolean), RX11) := rfl
theorem oM_165 : omt[165]? = some (yX11_continues, cX11_continues, 2, 2, 1, (some .boolean), RX11) := rfl
theorem oM_166 : omt[166]? = some (yX11_doubleSign, cX11_doubleSign, 3, 1, 0, (some .int), RX11) := rfl
theorem oM_167 : omt[167]? = some (yX11_endOfWord, cX11_endOfWord, 5, 1, 0, (some .int), RX11) := rfl
theorem oM_168 : omt[168]? = some (yX11_sameLetters, cX11_sameLetters, 5, 3, 0, (some .boolean), RX11) := rfl
theorem oM_169 : omt[169]? = some (yX11_keyword, cX11_keyword, 6, 2, 0, (some .int), RX11) := rfl
theorem oM_170 : omt[170]? = some (yX11_add, cX11_add, 4, 2, 0, none, RX11) := rfl
theorem oM_171 : omt[171]? = some (yX11_split, cX11_split, 4, 0, 0, none, RX11) := rfl
theorem oM_172 : omt[172]? = some (yX11_init, cX11_init, 2, 1, 2, none, RX11) := rfl
theorem oM_173 : omt[173]? = some (yX12_init, cX12_init, 1, 0, 2, none, RX12) := rfl
theorem oM_174 : omt[174]? = some (yX12_lay, cX12_lay, 3, 1, 0, none, RX12) := rfl
theorem oM_175 : omt[175]? = some (yX12_feed, cX12_feed, 6, 5, 0, (some .boolean), RX12) := rfl
theorem oM_176 : omt[176]? = some (yX12_end, cX12_end, 2, 1, 0, (some .boolean), RX12) := rfl
theorem oM_177 : omt[177]? = some (yX12_fault, cX12_fault, 3, 2, 0, (some .int), RX12) := rfl
theorem oM_178 : omt[178]? = some (yX12_compile, cX12_compile, 5, 0, 0, (some .int), RX12) := rfl
theorem oM_179 : omt[179]? = some (yX12_accepted, cX12_accepted, 1, 0, 0, (some .int), RX12) := rfl
theorem oM_180 : omt[180]? = some (yX12_place, cX12_place, 1, 0, 0, (some .int), RX12) := rfl
theorem oM_181 : omt[181]? = some (yX12_put_, cX12_put_, 2, 1, 0, none, RX12) := rfl
theorem oM_182 : omt[182]? = some (yX12_put, cX12_put, 3, 1, 0, none, RX12) := rfl
theorem oM_183 : omt[183]? = some (yX12_tellNumber, cX12_tellNumber, 8, 1, 0, none, RX12) := rfl
theorem oM_184 : omt[184]? = some (yX12_tellName, cX12_tellName, 3, 1, 0, none, RX12) := rfl
theorem oM_185 : omt[185]? = some (yX12_tellRelation, cX12_tellRelation, 2, 1, 0, none, RX12) := rfl
theorem oM_186 : omt[186]? = some (yX12_tellTerm, cX12_tellTerm, 2, 1, 0, none, RX12) := rfl
theorem oM_187 : omt[187]? = some (yX12_tellLeaf, cX12_tellLeaf, 3, 1, 0, none, RX12) := rfl
theorem oM_188 : omt[188]? = some (yX12_tell, cX12_tell, 6, 2, 0, none, RX12) := rfl
theorem oM_189 : omt[189]? = some (yX12_type, cX12_type, 3, 1, 0, (some .int), RX12) := rfl
theorem oM_190 : omt[190]? = some (yX12_out, cX12_out, 2, 1, 0, (some .int), RX12) := rfl
theorem oM_191 : omt[191]? = some (yX12_give, cX12_give, 3, 2, 0, (some .boolean), RX12) := rfl
theorem oM_192 : omt[192]? = some (yX12_element, cX12_element, 4, 3, 0, (some .boolean), RX12) := rfl
theorem oM_193 : omt[193]? = some (yX12_run, cX12_run, 2, 1, 0, (some .int), RX12) := rfl
theorem oM_194 : omt[194]? = some (yX12_value, cX12_value, 1, 0, 0, (some .long), RX12) := rfl
theorem oM_195 : omt[195]? = some (yX12_fuel, cX12_fuel, 1, 0, 0, (some .int), RX12) := rfl
theorem oM_196 : omt[196]? = some (yJ0_init_905df, cJ0_init_905df, 2, 1, 2, none, RJ0) := rfl
theorem oM_197 : omt[197]? = some (yJ0_init_bb550, cJ0_init_bb550, 6, 4, 2, none, RJ0) := rfl
theorem oM_198 : omt[198]? = some (yJ2_compress_dfd3c, cJ2_compress_dfd3c, 6, 3, 1, (some (.array .byte)), RJ2) := rfl
theorem oM_199 : omt[199]? = some (yJ2_compress_fe38e, cJ2_compress_fe38e, 7, 5, 1, (some .int), RJ2) := rfl
theorem oM_200 : omt[200]? = some (yJ2_coderFromArrayLen_85cad, cJ2_coderFromArrayLen_85cad, 2, 2, 1, (some .byte), RJ2) := rfl
theorem oM_201 : omt[201]? = some (yJ0_charAt_5068e, cJ0_charAt_5068e, 2, 1, 0, (some .char), RJ0) := rfl
theorem oM_202 : omt[202]? = some (yJ0_isLatin1_aae02, cJ0_isLatin1_aae02, 1, 0, 0, (some .boolean), RJ0) := rfl
theorem oM_203 : omt[203]? = some (yJ1_charAt_3b067, cJ1_charAt_3b067, 2, 2, 1, (some .char), RJ1) := rfl
theorem oM_204 : omt[204]? = some (yJ0_checkIndex_df160, cJ0_checkIndex_df160, 2, 2, 1, none, RJ0) := rfl
theorem oM_205 : omt[205]? = some (yJ15_checkIndex_7cf53, cJ15_checkIndex_7cf53, 2, 2, 1, (some .int), RJ15) := rfl
theorem oM_206 : omt[206]? = some (yJ3_checkIndex_8e157, cJ3_checkIndex_8e157, 3, 3, 1, (some .int), RJ3) := rfl
theorem oM_207 : omt[207]? = some (yJ0_length_8abf5, cJ0_length_8abf5, 1, 0, 0, (some .int), RJ0) := rfl
theorem oM_208 : omt[208]? = some (yJ0_coder_7d493, cJ0_coder_7d493, 1, 0, 0, (some .byte), RJ0) := rfl
theorem oM_209 : omt[209]? = some (yJ0_substring_37a41, cJ0_substring_37a41, 5, 2, 0, (some (.object "java/lang/String")), RJ0) := rfl
theorem oM_210 : omt[210]? = some (yJ0_checkBoundsBeginEnd_23922, cJ0_checkBoundsBeginEnd_23922, 3, 3, 1, none, RJ0) := rfl
theorem oM_211 : omt[211]? = some (yJ3_checkFromToIndex_8c36e, cJ3_checkFromToIndex_8c36e, 4, 4, 1, (some .int), RJ3) := rfl
theorem oM_212 : omt[212]? = some (yJ1_newString_b4f7a, cJ1_newString_b4f7a, 3, 3, 1, (some (.object "java/lang/String")), RJ1) := rfl
theorem oM_213 : omt[213]? = some (yJ7_copyOfRange_39247, cJ7_copyOfRange_39247, 3, 3, 1, (some (.array .byte)), RJ7) := rfl
theorem oM_214 : omt[214]? = some (yJ7_copyOfRangeByte_39247, cJ7_copyOfRangeByte_39247, 5, 3, 1, (some (.array .byte)), RJ7) := rfl
theorem oM_215 : omt[215]? = some (yJ7_checkLength_df160, cJ7_checkLength_df160, 2, 2, 1, none, RJ7) := rfl
theorem oM_216 : omt[216]? = some (yJ0_init_031fb, cJ0_init_031fb, 3, 2, 2, none, RJ0) := rfl
theorem oM_217 : omt[217]? = some (yJ0_equals_9ea2d, cJ0_equals_9ea2d, 3, 1, 0, (some .boolean), RJ0) := rfl
theorem oM_218 : omt[218]? = some (yJ1_equals_b5fdf, cJ1_equals_b5fdf, 3, 2, 1, (some .boolean), RJ1) := rfl
theorem oM_219 : omt[219]? = some (yJ0_indexOf_0f7a4, cJ0_indexOf_0f7a4, 2, 1, 0, (some .int), RJ0) := rfl
theorem oM_220 : omt[220]? = some (yJ0_indexOf_7cf53, cJ0_indexOf_7cf53, 3, 2, 0, (some .int), RJ0) := rfl
theorem oM_221 : omt[221]? = some (yJ1_indexOf_4cfef, cJ1_indexOf_4cfef, 4, 4, 1, (some .int), RJ1) := rfl
theorem oM_222 : omt[222]? = some (yJ1_canEncode_9a6ad, cJ1_canEncode_9a6ad, 1, 1, 1, (some .boolean), RJ1) := rfl
theorem oM_223 : omt[223]? = some (yJ1_indexOfChar_4cfef, cJ1_indexOfChar_4cfef, 6, 4, 1, (some .int), RJ1) := rfl
theorem oM_224 : omt[224]? = some (yJx4a65c_init_da8c8, cJx4a65c_init_da8c8, 1, 0, 2, none, RJx4a65c) := rfl
theorem oM_225 : omt[225]? = some (yJxc12de_init_da8c8, cJxc12de_init_da8c8, 1, 0, 2, none, RJxc12de) := rfl
theorem oM_226 : omt[226]? = some (yJxa1e45_init_da8c8, cJxa1e45_init_da8c8, 1, 0, 2, none, RJxa1e45) := rfl
theorem oM_227 : omt[227]? = some (yJx4a65c_add_9ea2d, cJx4a65c_add_9ea2d, 2, 1, 0, (some .boolean), RJx4a65c) := rfl
theorem oM_228 : omt[228]? = some (yJx4a65c_add_72be8, cJx4a65c_add_72be8, 4, 3, 0, none, RJx4a65c) := rfl
theorem oM_229 : omt[229]? = some (yJx4a65c_grow_d5877, cJx4a65c_grow_d5877, 1, 0, 0, (some (.array (.object "java/lang/Object"))), RJx4a65c) := rfl
theorem oM_230 : omt[230]? = some (yJx4a65c_grow_92f84, cJx4a65c_grow_92f84, 4, 1, 0, (some (.array (.object "java/lang/Object"))), RJx4a65c) := rfl
theorem oM_231 : omt[231]? = some (yJ8_newLength_cabcc, cJ8_newLength_cabcc, 4, 3, 1, (some .int), RJ8) := rfl
theorem oM_232 : omt[232]? = some (yJ7_copyOf_1904c, cJ7_copyOf_1904c, 2, 2, 1, (some (.array (.object "java/lang/Object"))), RJ7) := rfl
theorem oM_233 : omt[233]? = some (yJ7_copyOf_6403c, cJ7_copyOf_6403c, 4, 3, 1, (some (.array (.object "java/lang/Object"))), RJ7) := rfl
theorem oM_234 : omt[234]? = some (yJx4a65c_get_915e3, cJx4a65c_get_915e3, 2, 1, 0, (some (.object "java/lang/Object")), RJx4a65c) := rfl
theorem oM_235 : omt[235]? = some (yJx4a65c_elementData_915e3, cJx4a65c_elementData_915e3, 2, 1, 0, (some (.object "java/lang/Object")), RJx4a65c) := rfl
theorem oM_236 : omt[236]? = some (yJx4a65c_size_8abf5, cJx4a65c_size_8abf5, 1, 0, 0, (some .int), RJx4a65c) := rfl
theorem oM_237 : omt[237]? = some (yJx4a65c_clear_da8c8, cJx4a65c_clear_da8c8, 4, 0, 0, none, RJx4a65c) := rfl
theorem oM_238 : omt[238]? = some (yJ7_copyOf_59c91, cJ7_copyOf_59c91, 3, 2, 1, (some (.array .int)), RJ7) := rfl
theorem oM_239 : omt[239]? = some (yJ7_copyOf_c38d5, cJ7_copyOf_c38d5, 3, 2, 1, (some (.array .long)), RJ7) := rfl
theorem oM_240 : omt[240]? = some (yJ7_copyOf_9075b, cJ7_copyOf_9075b, 3, 2, 1, (some (.array .byte)), RJ7) := rfl
theorem oM_241 : omt[241]? = some (yJ7_fill_d0a16, cJ7_fill_d0a16, 5, 2, 1, none, RJ7) := rfl
theorem oM_242 : omt[242]? = some (yJ7_fill_53178, cJ7_fill_53178, 4, 2, 1, none, RJ7) := rfl
theorem oM_243 : omt[243]? = some (yJ9_floorDiv_f86c9, cJ9_floorDiv_f86c9, 6, 2, 1, (some .long), RJ9) := rfl
theorem oM_244 : omt[244]? = some (yJ9_floorMod_f86c9, cJ9_floorMod_f86c9, 6, 2, 1, (some .long), RJ9) := rfl
section OEN
variable {cc : ByteArray} {nL kd : Nat} {ret : Option FieldType} {κ : oKv} {kc : Nat → List Value → oSt → Option Value × oSt → Prop} {w0 : Option Value × oSt} {X : Nat → zLv → List Value → oSt → Prop} {pc : Nat} {lv : zLv} {st : List Value} {σ u : oSt}
theorem oc_RJ0_27 (hX : oSem RJ0 cc nL kd ret κ kc w0 X) {a1 : Value} {a2 : Value} {a3 : Value} {a4 : Value} {rb : Option Nat} {b : Nat} (d : decode cc pc = .ok (.invokespecial 27, 3)) (hc : (st.map fun v => v.category).sum ≤ 8) (hb : rb = some b) (hk : kc 197 (va_rf rb :: [a1, a2, a3, a4]) σ (none, u)) (k : X (pc + 3) lv st u) : X pc lv (a4 :: a3 :: a2 :: a1 :: va_rf rb :: st) σ := ow_cI hX (as := [a1, a2, a3, a4]) d (List.mem_of_getElem? (i := 0) rfl) oM_197 rfl rfl rfl hc hb hk k
theorem oc_RJ0_47 (hX : oSem RJ0 cc nL kd ret κ kc w0 X) {a1 : Value} {a2 : Value} {r : Int32} (d : decode cc pc = .ok (.invokestatic 47, 3)) (hc : (st.map fun v => v.category).sum ≤ 16) (hk : kc 200 [a1, a2] σ (some (.int r), u)) (k : X (pc + 3) lv (.int r :: st) u) : X pc lv (a2 :: a1 :: st) σ := os_callSi hX (as := [a1, a2]) d (List.mem_of_getElem? (i := 1) rfl) oM_200 rfl rfl rfl hc hk k
theorem oc_RJ0_177 (hX : oSem RJ0 cc nL kd ret κ kc w0 X) {a1 : Value} {a2 : Value} {a3 : Value} {r : Option Nat} (d : decode cc pc = .ok (.invokestatic 177, 3)) (hc : (st.map fun v => v.category).sum ≤ 16) (hk : kc 198 [a1, a2, a3] σ (some (va_rf r), u)) (k : X (pc + 3) lv (va_rf r :: st) u) : X pc lv (a3 :: a2 :: a1 :: st) σ := os_callSq hX (as := [a1, a2, a3]) d (List.mem_of_getElem? (i := 2) rfl) oM_198 rfl rfl rfl hc hk k
theorem oc_RJ0_335 (hX : oSem RJ0 cc nL kd ret κ kc w0 X) {r : Int32} {rb : Option Nat} {b : Nat} (d : decode cc pc = .ok (.invokevirtual 335, 3)) (hc : (st.map fun v => v.category).sum ≤ 16) (hb : oSt' κ σ rb = some b) (hk : kc 208 (va_rf rb :: []) σ (some (.int r), u)) (k : X (pc + 3) lv (.int r :: st) u) : X pc lv (va_rf rb :: st) σ := ow_cKi hX (as := []) d (List.mem_of_getElem? (i := 3) rfl) oM_208 rfl rfl rfl hc hb rfl hk k
theorem oc_RJ0_492 (hX : oSem RJ0 cc nL kd ret κ kc w0 X) {r : Int32} {rb : Option Nat} {b : Nat} (d : decode cc pc = .ok (.invokevirtual 492, 3)) (hc : (st.map fun v => v.category).sum ≤ 16) (hb : oSt' κ σ rb = some b) (hk : kc 202 (va_rf rb :: []) σ (some (.int r), u)) (k : X (pc + 3) lv (.int r :: st) u) : X pc lv (va_rf rb :: st) σ := ow_cKi hX (as := []) d (List.mem_of_getElem? (i := 4) rfl) oM_202 rfl rfl rfl hc hb rfl hk k
theorem oc_RJ0_495 (hX : oSem RJ0 cc nL kd ret κ kc w0 X) {a1 : Value} {a2 : Value} {r : Int32} (d : decode cc pc = .ok (.invokestatic 495, 3)) (hc : (st.map fun v => v.category).sum ≤ 16) (hk : kc 203 [a1, a2] σ (some (.int r), u)) (k : X (pc + 3) lv (.int r :: st) u) : X pc lv (a2 :: a1 :: st) σ := os_callSi hX (as := [a1, a2]) d (List.mem_of_getElem? (i := 5) rfl) oM_203 rfl rfl rfl hc hk k
theorem oc_RJ0_505 (hX : oSem RJ0 cc nL kd ret κ kc w0 X) {r : Int32} {rb : Option Nat} {b : Nat} (d : decode cc pc = .ok (.invokevirtual 505, 3)) (hc : (st.map fun v => v.category).sum ≤ 16) (hb : oSt' κ σ rb = some b) (hk : kc 207 (va_rf rb :: []) σ (some (.int r), u)) (k : X (pc + 3) lv (.int r :: st) u) : X pc lv (va_rf rb :: st) σ := ow_cKi hX (as := []) d (List.mem_of_getElem? (i := 6) rfl) oM_207 rfl rfl rfl hc hb rfl hk k
theorem oc_RJ0_521 (hX : oSem RJ0 cc nL kd ret κ kc w0 X) {a1 : Value} {a2 : Value} {a3 : Value} (d : decode cc pc = .ok (.invokestatic 521, 3)) (hc : (st.map fun v => v.category).sum ≤ 16) (hk : kc 210 [a1, a2, a3] σ (none, u)) (k : X (pc + 3) lv (st) u) : X pc lv (a3 :: a2 :: a1 :: st) σ := os_callSv hX (as := [a1, a2, a3]) d (List.mem_of_getElem? (i := 7) rfl) oM_210 rfl rfl rfl hc hk k
theorem oc_RJ0_541 (hX : oSem RJ0 cc nL kd ret κ kc w0 X) {a1 : Value} {a2 : Value} {r : Int32} (d : decode cc pc = .ok (.invokestatic 541, 3)) (hc : (st.map fun v => v.category).sum ≤ 16) (hk : kc 218 [a1, a2] σ (some (.int r), u)) (k : X (pc + 3) lv (.int r :: st) u) : X pc lv (a2 :: a1 :: st) σ := os_callSi hX (as := [a1, a2]) d (List.mem_of_getElem? (i := 8) rfl) oM_218 rfl rfl rfl hc hk k
theorem oc_RJ0_633 (hX : oSem RJ0 cc nL kd ret κ kc w0 X) {a1 : Value} {a2 : Value} {r : Int32} {rb : Option Nat} {b : Nat} (d : decode cc pc = .ok (.invokevirtual 633, 3)) (hc : (st.map fun v => v.category).sum ≤ 16) (hb : oSt' κ σ rb = some b) (hk : kc 220 (va_rf rb :: [a1, a2]) σ (some (.int r), u)) (k : X (pc + 3) lv (.int r :: st) u) : X pc lv (a2 :: a1 :: va_rf rb :: st) σ := ow_cKi hX (as := [a1, a2]) d (List.mem_of_getElem? (i := 9) rfl) oM_220 rfl rfl rfl hc hb rfl hk k
theorem oc_RJ0_637 (hX : oSem RJ0 cc nL kd ret κ kc w0 X) {a1 : Value} {a2 : Value} {a3 : Value} {a4 : Value} {r : Int32} (d : decode cc pc = .ok (.invokestatic 637, 3)) (hc : (st.map fun v => v.category).sum ≤ 16) (hk : kc 221 [a1, a2, a3, a4] σ (some (.int r), u)) (k : X (pc + 3) lv (.int r :: st) u) : X pc lv (a4 :: a3 :: a2 :: a1 :: st) σ := os_callSi hX (as := [a1, a2, a3, a4]) d (List.mem_of_getElem? (i := 10) rfl) oM_221 rfl rfl rfl hc hk k
theorem oc_RJ0_685 (hX : oSem RJ0 cc nL kd ret κ kc w0 X) {a1 : Value} {a2 : Value} {a3 : Value} {r : Option Nat} (d : decode cc pc = .ok (.invokestatic 685, 3)) (hc : (st.map fun v => v.category).sum ≤ 16) (hk : kc 212 [a1, a2, a3] σ (some (va_rf r), u)) (k : X (pc + 3) lv (va_rf r :: st) u) : X pc lv (a3 :: a2 :: a1 :: st) σ := os_callSq hX (as := [a1, a2, a3]) d (List.mem_of_getElem? (i := 11) rfl) oM_212 rfl rfl rfl hc hk k
theorem oc_RJ0_1059 (hX : oSem RJ0 cc nL kd ret κ kc w0 X) {a1 : Value} {a2 : Value} {a3 : Value} {r : Int32} (d : decode cc pc = .ok (.invokestatic 1059, 3)) (hc : (st.map fun v => v.category).sum ≤ 16) (hk : kc 206 [a1, a2, a3] σ (some (.int r), u)) (k : X (pc + 3) lv (.int r :: st) u) : X pc lv (a3 :: a2 :: a1 :: st) σ := os_callSi hX (as := [a1, a2, a3]) d (List.mem_of_getElem? (i := 12) rfl) oM_206 rfl rfl rfl hc hk k
theorem oc_RJ0_1062 (hX : oSem RJ0 cc nL kd ret κ kc w0 X) {a1 : Value} {a2 : Value} {a3 : Value} {a4 : Value} {r : Int32} (d : decode cc pc = .ok (.invokestatic 1062, 3)) (hc : (st.map fun v => v.category).sum ≤ 16) (hk : kc 211 [a1, a2, a3, a4] σ (some (.int r), u)) (k : X (pc + 3) lv (.int r :: st) u) : X pc lv (a4 :: a3 :: a2 :: a1 :: st) σ := os_callSi hX (as := [a1, a2, a3, a4]) d (List.mem_of_getElem? (i := 13) rfl) oM_211 rfl rfl rfl hc hk k
theorem oc_RJ1_9 (hX : oSem RJ1 cc nL kd ret κ kc w0 X) {a1 : Value} {a2 : Value} (d : decode cc pc = .ok (.invokestatic 9, 3)) (hc : (st.map fun v => v.category).sum ≤ 16) (hk : kc 204 [a1, a2] σ (none, u)) (k : X (pc + 3) lv (st) u) : X pc lv (a2 :: a1 :: st) σ := os_callSv hX (as := [a1, a2]) d (List.mem_of_getElem? (i := 14) rfl) oM_204 rfl rfl rfl hc hk k
theorem oc_RJ1_88 (hX : oSem RJ1 cc nL kd ret κ kc w0 X) {a1 : Value} {r : Int32} (d : decode cc pc = .ok (.invokestatic 88, 3)) (hc : (st.map fun v => v.category).sum ≤ 16) (hk : kc 222 [a1] σ (some (.int r), u)) (k : X (pc + 3) lv (.int r :: st) u) : X pc lv (a1 :: st) σ := os_callSi hX (as := [a1]) d (List.mem_of_getElem? (i := 15) rfl) oM_222 rfl rfl rfl hc hk k
theorem oc_RJ1_95 (hX : oSem RJ1 cc nL kd ret κ kc w0 X) {a1 : Value} {a2 : Value} {a3 : Value} {a4 : Value} {r : Int32} (d : decode cc pc = .ok (.invokestatic 95, 3)) (hc : (st.map fun v => v.category).sum ≤ 16) (hk : kc 223 [a1, a2, a3, a4] σ (some (.int r), u)) (k : X (pc + 3) lv (.int r :: st) u) : X pc lv (a4 :: a3 :: a2 :: a1 :: st) σ := os_callSi hX (as := [a1, a2, a3, a4]) d (List.mem_of_getElem? (i := 16) rfl) oM_223 rfl rfl rfl hc hk k
theorem oc_RJ1_112 (hX : oSem RJ1 cc nL kd ret κ kc w0 X) {a1 : Value} {a2 : Value} {rb : Option Nat} {b : Nat} (d : decode cc pc = .ok (.invokespecial 112, 3)) (hc : (st.map fun v => v.category).sum ≤ 8) (hb : rb = some b) (hk : kc 216 (va_rf rb :: [a1, a2]) σ (none, u)) (k : X (pc + 3) lv st u) : X pc lv (a2 :: a1 :: va_rf rb :: st) σ := ow_cI hX (as := [a1, a2]) d (List.mem_of_getElem? (i := 17) rfl) oM_216 rfl rfl rfl hc hb hk k
theorem oc_RJ1_232 (hX : oSem RJ1 cc nL kd ret κ kc w0 X) {a1 : Value} {a2 : Value} {a3 : Value} {r : Option Nat} (d : decode cc pc = .ok (.invokestatic 232, 3)) (hc : (st.map fun v => v.category).sum ≤ 16) (hk : kc 213 [a1, a2, a3] σ (some (va_rf r), u)) (k : X (pc + 3) lv (va_rf r :: st) u) : X pc lv (a3 :: a2 :: a1 :: st) σ := os_callSq hX (as := [a1, a2, a3]) d (List.mem_of_getElem? (i := 18) rfl) oM_213 rfl rfl rfl hc hk k
theorem oc_RJ15_105 (hX : oSem RJ15 cc nL kd ret κ kc w0 X) {a1 : Value} {a2 : Value} {a3 : Value} {r : Int32} (d : decode cc pc = .ok (.invokestatic 105, 3)) (hc : (st.map fun v => v.category).sum ≤ 16) (hk : kc 206 [a1, a2, a3] σ (some (.int r), u)) (k : X (pc + 3) lv (.int r :: st) u) : X pc lv (a3 :: a2 :: a1 :: st) σ := os_callSi hX (as := [a1, a2, a3]) d (List.mem_of_getElem? (i := 19) rfl) oM_206 rfl rfl rfl hc hk k
theorem oc_RJ2_115 (hX : oSem RJ2 cc nL kd ret κ kc w0 X) {a1 : Value} {a2 : Value} {a3 : Value} {a4 : Value} {a5 : Value} {r : Int32} (d : decode cc pc = .ok (.invokestatic 115, 3)) (hc : (st.map fun v => v.category).sum ≤ 16) (hk : kc 199 [a1, a2, a3, a4, a5] σ (some (.int r), u)) (k : X (pc + 3) lv (.int r :: st) u) : X pc lv (a5 :: a4 :: a3 :: a2 :: a1 :: st) σ := os_callSi hX (as := [a1, a2, a3, a4, a5]) d (List.mem_of_getElem? (i := 20) rfl) oM_199 rfl rfl rfl hc hk k
theorem oc_RJ2_126 (hX : oSem RJ2 cc nL kd ret κ kc w0 X) {a1 : Value} {a2 : Value} {a3 : Value} {r : Option Nat} (d : decode cc pc = .ok (.invokestatic 126, 3)) (hc : (st.map fun v => v.category).sum ≤ 16) (hk : kc 213 [a1, a2, a3] σ (some (va_rf r), u)) (k : X (pc + 3) lv (va_rf r :: st) u) : X pc lv (a3 :: a2 :: a1 :: st) σ := os_callSq hX (as := [a1, a2, a3]) d (List.mem_of_getElem? (i := 21) rfl) oM_213 rfl rfl rfl hc hk k
theorem oc_RJ2_241 (hX : oSem RJ2 cc nL kd ret κ kc w0 X) {a1 : Value} {a2 : Value} {a3 : Value} (d : decode cc pc = .ok (.invokestatic 241, 3)) (hc : (st.map fun v => v.category).sum ≤ 16) (hk : kc 210 [a1, a2, a3] σ (none, u)) (k : X (pc + 3) lv (st) u) : X pc lv (a3 :: a2 :: a1 :: st) σ := os_callSv hX (as := [a1, a2, a3]) d (List.mem_of_getElem? (i := 22) rfl) oM_210 rfl rfl rfl hc hk k
theorem oc_RJ2_259 (hX : oSem RJ2 cc nL kd ret κ kc w0 X) {a1 : Value} {a2 : Value} {r : Int32} (d : decode cc pc = .ok (.invokestatic 259, 3)) (hc : (st.map fun v => v.category).sum ≤ 16) (hk : kc 200 [a1, a2] σ (some (.int r), u)) (k : X (pc + 3) lv (.int r :: st) u) : X pc lv (a2 :: a1 :: st) σ := os_callSi hX (as := [a1, a2]) d (List.mem_of_getElem? (i := 23) rfl) oM_200 rfl rfl rfl hc hk k
theorem oc_RJ2_263 (hX : oSem RJ2 cc nL kd ret κ kc w0 X) {a1 : Value} {a2 : Value} {rb : Option Nat} {b : Nat} (d : decode cc pc = .ok (.invokespecial 263, 3)) (hc : (st.map fun v => v.category).sum ≤ 8) (hb : rb = some b) (hk : kc 216 (va_rf rb :: [a1, a2]) σ (none, u)) (k : X (pc + 3) lv st u) : X pc lv (a2 :: a1 :: va_rf rb :: st) σ := ow_cI hX (as := [a1, a2]) d (List.mem_of_getElem? (i := 24) rfl) oM_216 rfl rfl rfl hc hb hk k
theorem oc_RJ2_414 (hX : oSem RJ2 cc nL kd ret κ kc w0 X) {a1 : Value} {a2 : Value} (d : decode cc pc = .ok (.invokestatic 414, 3)) (hc : (st.map fun v => v.category).sum ≤ 16) (hk : kc 204 [a1, a2] σ (none, u)) (k : X (pc + 3) lv (st) u) : X pc lv (a2 :: a1 :: st) σ := os_callSv hX (as := [a1, a2]) d (List.mem_of_getElem? (i := 25) rfl) oM_204 rfl rfl rfl hc hk k
theorem oc_RJ7_300 (hX : oSem RJ7 cc nL kd ret κ kc w0 X) {a1 : Value} {a2 : Value} {a3 : Value} {r : Option Nat} (d : decode cc pc = .ok (.invokestatic 300, 3)) (hc : (st.map fun v => v.category).sum ≤ 16) (hk : kc 233 [a1, a2, a3] σ (some (va_rf r), u)) (k : X (pc + 3) lv (va_rf r :: st) u) : X pc lv (a3 :: a2 :: a1 :: st) σ := os_callSq hX (as := [a1, a2, a3]) d (List.mem_of_getElem? (i := 26) rfl) oM_233 rfl rfl rfl hc hk k
theorem oc_RJ7_339 (hX : oSem RJ7 cc nL kd ret κ kc w0 X) {a1 : Value} {a2 : Value} {a3 : Value} {r : Option Nat} (d : decode cc pc = .ok (.invokestatic 339, 3)) (hc : (st.map fun v => v.category).sum ≤ 16) (hk : kc 214 [a1, a2, a3] σ (some (va_rf r), u)) (k : X (pc + 3) lv (va_rf r :: st) u) : X pc lv (a3 :: a2 :: a1 :: st) σ := os_callSq hX (as := [a1, a2, a3]) d (List.mem_of_getElem? (i := 27) rfl) oM_214 rfl rfl rfl hc hk k
theorem oc_RJ7_343 (hX : oSem RJ7 cc nL kd ret κ kc w0 X) {a1 : Value} {a2 : Value} (d : decode cc pc = .ok (.invokestatic 343, 3)) (hc : (st.map fun v => v.category).sum ≤ 16) (hk : kc 215 [a1, a2] σ (none, u)) (k : X (pc + 3) lv (st) u) : X pc lv (a2 :: a1 :: st) σ := os_callSv hX (as := [a1, a2]) d (List.mem_of_getElem? (i := 28) rfl) oM_215 rfl rfl rfl hc hk k
theorem oc_RJx4a65c_1 (hX : oSem RJx4a65c cc nL kd ret κ kc w0 X) {rb : Option Nat} {b : Nat} (d : decode cc pc = .ok (.invokespecial 1, 3)) (hc : (st.map fun v => v.category).sum ≤ 8) (hb : rb = some b) (hk : kc 225 (va_rf rb :: []) σ (none, u)) (k : X (pc + 3) lv st u) : X pc lv (va_rf rb :: st) σ := ow_cI hX (as := []) d (List.mem_of_getElem? (i := 29) rfl) oM_225 rfl rfl rfl hc hb hk k
theorem oc_RJx4a65c_66 (hX : oSem RJx4a65c cc nL kd ret κ kc w0 X) {a1 : Value} {a2 : Value} {r : Option Nat} (d : decode cc pc = .ok (.invokestatic 66, 3)) (hc : (st.map fun v => v.category).sum ≤ 16) (hk : kc 232 [a1, a2] σ (some (va_rf r), u)) (k : X (pc + 3) lv (va_rf r :: st) u) : X pc lv (a2 :: a1 :: st) σ := os_callSq hX (as := [a1, a2]) d (List.mem_of_getElem? (i := 30) rfl) oM_232 rfl rfl rfl hc hk k
theorem oc_RJx4a65c_69 (hX : oSem RJx4a65c cc nL kd ret κ kc w0 X) {a1 : Value} {r : Option Nat} {rb : Option Nat} {b : Nat} (d : decode cc pc = .ok (.invokevirtual 69, 3)) (hc : (st.map fun v => v.category).sum ≤ 16) (hb : oob σ rb 1 = some b) (hk : kc 230 (va_rf rb :: [a1]) σ (some (va_rf r), u)) (k : X (pc + 3) lv (va_rf r :: st) u) : X pc lv (a1 :: va_rf rb :: st) σ := ow_cVq hX (as := [a1]) d (List.mem_of_getElem? (i := 31) rfl) oM_230 rfl rfl rfl hc hb ⟨by decide, rfl⟩ hk k
theorem oc_RJx4a65c_73 (hX : oSem RJx4a65c cc nL kd ret κ kc w0 X) {a1 : Value} {a2 : Value} {a3 : Value} {r : Int32} (d : decode cc pc = .ok (.invokestatic 73, 3)) (hc : (st.map fun v => v.category).sum ≤ 16) (hk : kc 231 [a1, a2, a3] σ (some (.int r), u)) (k : X (pc + 3) lv (.int r :: st) u) : X pc lv (a3 :: a2 :: a1 :: st) σ := os_callSi hX (as := [a1, a2, a3]) d (List.mem_of_getElem? (i := 32) rfl) oM_231 rfl rfl rfl hc hk k
theorem oc_RJx4a65c_118 (hX : oSem RJx4a65c cc nL kd ret κ kc w0 X) {a1 : Value} {a2 : Value} {r : Int32} (d : decode cc pc = .ok (.invokestatic 118, 3)) (hc : (st.map fun v => v.category).sum ≤ 16) (hk : kc 205 [a1, a2] σ (some (.int r), u)) (k : X (pc + 3) lv (.int r :: st) u) : X pc lv (a2 :: a1 :: st) σ := os_callSi hX (as := [a1, a2]) d (List.mem_of_getElem? (i := 33) rfl) oM_205 rfl rfl rfl hc hk k
theorem oc_RJx4a65c_123 (hX : oSem RJx4a65c cc nL kd ret κ kc w0 X) {a1 : Value} {r : Option Nat} {rb : Option Nat} {b : Nat} (d : decode cc pc = .ok (.invokevirtual 123, 3)) (hc : (st.map fun v => v.category).sum ≤ 16) (hb : oob σ rb 1 = some b) (hk : kc 235 (va_rf rb :: [a1]) σ (some (va_rf r), u)) (k : X (pc + 3) lv (va_rf r :: st) u) : X pc lv (a1 :: va_rf rb :: st) σ := ow_cVq hX (as := [a1]) d (List.mem_of_getElem? (i := 34) rfl) oM_235 rfl rfl rfl hc hb ⟨by decide, rfl⟩ hk k
theorem oc_RJx4a65c_129 (hX : oSem RJx4a65c cc nL kd ret κ kc w0 X) {r : Option Nat} {rb : Option Nat} {b : Nat} (d : decode cc pc = .ok (.invokevirtual 129, 3)) (hc : (st.map fun v => v.category).sum ≤ 16) (hb : oob σ rb 1 = some b) (hk : kc 229 (va_rf rb :: []) σ (some (va_rf r), u)) (k : X (pc + 3) lv (va_rf r :: st) u) : X pc lv (va_rf rb :: st) σ := ow_cVq hX (as := []) d (List.mem_of_getElem? (i := 35) rfl) oM_229 rfl rfl rfl hc hb ⟨by decide, rfl⟩ hk k
theorem oc_RJx4a65c_131 (hX : oSem RJx4a65c cc nL kd ret κ kc w0 X) {a1 : Value} {a2 : Value} {a3 : Value} {rb : Option Nat} {b : Nat} (d : decode cc pc = .ok (.invokevirtual 131, 3)) (hc : (st.map fun v => v.category).sum ≤ 16) (hb : oob σ rb 1 = some b) (hk : kc 228 (va_rf rb :: [a1, a2, a3]) σ (none, u)) (k : X (pc + 3) lv (st) u) : X pc lv (a3 :: a2 :: a1 :: va_rf rb :: st) σ := ow_cVv hX (as := [a1, a2, a3]) d (List.mem_of_getElem? (i := 36) rfl) oM_228 rfl rfl rfl hc hb ⟨by decide, rfl⟩ hk k
theorem oc_RJxc12de_1 (hX : oSem RJxc12de cc nL kd ret κ kc w0 X) {rb : Option Nat} {b : Nat} (d : decode cc pc = .ok (.invokespecial 1, 3)) (hc : (st.map fun v => v.category).sum ≤ 8) (hb : rb = some b) (hk : kc 226 (va_rf rb :: []) σ (none, u)) (k : X (pc + 3) lv st u) : X pc lv (va_rf rb :: st) σ := ow_cI hX (as := []) d (List.mem_of_getElem? (i := 37) rfl) oM_226 rfl rfl rfl hc hb hk k
theorem oc_RL_9 (hX : oSem RL cc nL kd ret κ kc w0 X) {rb : Option Nat} {b : Nat} (d : decode cc pc = .ok (.invokespecial 9, 3)) (hc : (st.map fun v => v.category).sum ≤ 8) (hb : rb = some b) (hk : kc 173 (va_rf rb :: []) σ (none, u)) (k : X (pc + 3) lv st u) : X pc lv (va_rf rb :: st) σ := ow_cI hX (as := []) d (List.mem_of_getElem? (i := 38) rfl) oM_173 rfl rfl rfl hc hb hk k
theorem oc_RL_13 (hX : oSem RL cc nL kd ret κ kc w0 X) {a1 : Value} {a2 : Value} {a3 : Value} {a4 : Value} {a5 : Value} {r : Int32} {rb : Option Nat} {b : Nat} (d : decode cc pc = .ok (.invokevirtual 13, 3)) (hc : (st.map fun v => v.category).sum ≤ 16) (hb : oob σ rb 14 = some b) (hk : kc 175 (va_rf rb :: [a1, a2, a3, a4, a5]) σ (some (.int r), u)) (k : X (pc + 3) lv (.int r :: st) u) : X pc lv (a5 :: a4 :: a3 :: a2 :: a1 :: va_rf rb :: st) σ := ow_cVi hX (as := [a1, a2, a3, a4, a5]) d (List.mem_of_getElem? (i := 39) rfl) oM_175 rfl rfl rfl hc hb ⟨by decide, rfl⟩ hk k
theorem oc_RL_18 (hX : oSem RL cc nL kd ret κ kc w0 X) {a1 : Value} {r : Int32} {rb : Option Nat} {b : Nat} (d : decode cc pc = .ok (.invokevirtual 18, 3)) (hc : (st.map fun v => v.category).sum ≤ 16) (hb : oob σ rb 14 = some b) (hk : kc 176 (va_rf rb :: [a1]) σ (some (.int r), u)) (k : X (pc + 3) lv (.int r :: st) u) : X pc lv (a1 :: va_rf rb :: st) σ := ow_cVi hX (as := [a1]) d (List.mem_of_getElem? (i := 40) rfl) oM_176 rfl rfl rfl hc hb ⟨by decide, rfl⟩ hk k
theorem oc_RL_23 (hX : oSem RL cc nL kd ret κ kc w0 X) {r : Int32} {rb : Option Nat} {b : Nat} (d : decode cc pc = .ok (.invokevirtual 23, 3)) (hc : (st.map fun v => v.category).sum ≤ 16) (hb : oob σ rb 14 = some b) (hk : kc 178 (va_rf rb :: []) σ (some (.int r), u)) (k : X (pc + 3) lv (.int r :: st) u) : X pc lv (va_rf rb :: st) σ := ow_cVi hX (as := []) d (List.mem_of_getElem? (i := 41) rfl) oM_178 rfl rfl rfl hc hb ⟨by decide, rfl⟩ hk k
theorem oc_RL_28 (hX : oSem RL cc nL kd ret κ kc w0 X) {r : Int32} {rb : Option Nat} {b : Nat} (d : decode cc pc = .ok (.invokevirtual 28, 3)) (hc : (st.map fun v => v.category).sum ≤ 16) (hb : oob σ rb 14 = some b) (hk : kc 179 (va_rf rb :: []) σ (some (.int r), u)) (k : X (pc + 3) lv (.int r :: st) u) : X pc lv (va_rf rb :: st) σ := ow_cVi hX (as := []) d (List.mem_of_getElem? (i := 42) rfl) oM_179 rfl rfl rfl hc hb ⟨by decide, rfl⟩ hk k
theorem oc_RL_32 (hX : oSem RL cc nL kd ret κ kc w0 X) {r : Int32} {rb : Option Nat} {b : Nat} (d : decode cc pc = .ok (.invokevirtual 32, 3)) (hc : (st.map fun v => v.category).sum ≤ 16) (hb : oob σ rb 14 = some b) (hk : kc 180 (va_rf rb :: []) σ (some (.int r), u)) (k : X (pc + 3) lv (.int r :: st) u) : X pc lv (va_rf rb :: st) σ := ow_cVi hX (as := []) d (List.mem_of_getElem? (i := 43) rfl) oM_180 rfl rfl rfl hc hb ⟨by decide, rfl⟩ hk k
theorem oc_RL_36 (hX : oSem RL cc nL kd ret κ kc w0 X) {a1 : Value} {r : Int32} {rb : Option Nat} {b : Nat} (d : decode cc pc = .ok (.invokevirtual 36, 3)) (hc : (st.map fun v => v.category).sum ≤ 16) (hb : oob σ rb 14 = some b) (hk : kc 189 (va_rf rb :: [a1]) σ (some (.int r), u)) (k : X (pc + 3) lv (.int r :: st) u) : X pc lv (a1 :: va_rf rb :: st) σ := ow_cVi hX (as := [a1]) d (List.mem_of_getElem? (i := 44) rfl) oM_189 rfl rfl rfl hc hb ⟨by decide, rfl⟩ hk k
theorem oc_RL_41 (hX : oSem RL cc nL kd ret κ kc w0 X) {a1 : Value} {r : Int32} {rb : Option Nat} {b : Nat} (d : decode cc pc = .ok (.invokevirtual 41, 3)) (hc : (st.map fun v => v.category).sum ≤ 16) (hb : oob σ rb 14 = some b) (hk : kc 190 (va_rf rb :: [a1]) σ (some (.int r), u)) (k : X (pc + 3) lv (.int r :: st) u) : X pc lv (a1 :: va_rf rb :: st) σ := ow_cVi hX (as := [a1]) d (List.mem_of_getElem? (i := 45) rfl) oM_190 rfl rfl rfl hc hb ⟨by decide, rfl⟩ hk k
theorem oc_RL_45 (hX : oSem RL cc nL kd ret κ kc w0 X) {a1 : Value} {a2 : Value} {r : Int32} {rb : Option Nat} {b : Nat} (d : decode cc pc = .ok (.invokevirtual 45, 3)) (hc : (st.map fun v => v.category).sum ≤ 16) (hb : oob σ rb 14 = some b) (hk : kc 191 (va_rf rb :: [a1, a2]) σ (some (.int r), u)) (k : X (pc + 3) lv (.int r :: st) u) : X pc lv (a2 :: a1 :: va_rf rb :: st) σ := ow_cVi hX (as := [a1, a2]) d (List.mem_of_getElem? (i := 46) rfl) oM_191 rfl rfl rfl hc hb ⟨by decide, rfl⟩ hk k
theorem oc_RL_50 (hX : oSem RL cc nL kd ret κ kc w0 X) {a1 : Value} {a2 : Value} {a3 : Value} {r : Int32} {rb : Option Nat} {b : Nat} (d : decode cc pc = .ok (.invokevirtual 50, 3)) (hc : (st.map fun v => v.category).sum ≤ 16) (hb : oob σ rb 14 = some b) (hk : kc 192 (va_rf rb :: [a1, a2, a3]) σ (some (.int r), u)) (k : X (pc + 3) lv (.int r :: st) u) : X pc lv (a3 :: a2 :: a1 :: va_rf rb :: st) σ := ow_cVi hX (as := [a1, a2, a3]) d (List.mem_of_getElem? (i := 47) rfl) oM_192 rfl rfl rfl hc hb ⟨by decide, rfl⟩ hk k
theorem oc_RL_55 (hX : oSem RL cc nL kd ret κ kc w0 X) {a1 : Value} {r : Int32} {rb : Option Nat} {b : Nat} (d : decode cc pc = .ok (.invokevirtual 55, 3)) (hc : (st.map fun v => v.category).sum ≤ 16) (hb : oob σ rb 14 = some b) (hk : kc 193 (va_rf rb :: [a1]) σ (some (.int r), u)) (k : X (pc + 3) lv (.int r :: st) u) : X pc lv (a1 :: va_rf rb :: st) σ := ow_cVi hX (as := [a1]) d (List.mem_of_getElem? (i := 48) rfl) oM_193 rfl rfl rfl hc hb ⟨by decide, rfl⟩ hk k
theorem oc_RL_59 (hX : oSem RL cc nL kd ret κ kc w0 X) {r : Int64} {rb : Option Nat} {b : Nat} (d : decode cc pc = .ok (.invokevirtual 59, 3)) (hc : (st.map fun v => v.category).sum ≤ 16) (hb : oob σ rb 14 = some b) (hk : kc 194 (va_rf rb :: []) σ (some (.long r), u)) (k : X (pc + 3) lv (.long r :: st) u) : X pc lv (va_rf rb :: st) σ := ow_cVl hX (as := []) d (List.mem_of_getElem? (i := 49) rfl) oM_194 rfl rfl rfl hc hb ⟨by decide, rfl⟩ hk k
theorem oc_RL_64 (hX : oSem RL cc nL kd ret κ kc w0 X) {r : Int32} {rb : Option Nat} {b : Nat} (d : decode cc pc = .ok (.invokevirtual 64, 3)) (hc : (st.map fun v => v.category).sum ≤ 16) (hb : oob σ rb 14 = some b) (hk : kc 195 (va_rf rb :: []) σ (some (.int r), u)) (k : X (pc + 3) lv (.int r :: st) u) : X pc lv (va_rf rb :: st) σ := ow_cVi hX (as := []) d (List.mem_of_getElem? (i := 50) rfl) oM_195 rfl rfl rfl hc hb ⟨by decide, rfl⟩ hk k
theorem oc_RX0_11 (hX : oSem RX0 cc nL kd ret κ kc w0 X) {rb : Option Nat} {b : Nat} (d : decode cc pc = .ok (.invokespecial 11, 3)) (hc : (st.map fun v => v.category).sum ≤ 8) (hb : rb = some b) (hk : kc 224 (va_rf rb :: []) σ (none, u)) (k : X (pc + 3) lv st u) : X pc lv (va_rf rb :: st) σ := ow_cI hX (as := []) d (List.mem_of_getElem? (i := 51) rfl) oM_224 rfl rfl rfl hc hb hk k
theorem oc_RX0_57 (hX : oSem RX0 cc nL kd ret κ kc w0 X) {a1 : Value} {r : Option Nat} {rb : Option Nat} {b : Nat} (d : decode cc pc = .ok (.invokevirtual 57, 3)) (hc : (st.map fun v => v.category).sum ≤ 16) (hb : oob σ rb 1 = some b) (hk : kc 234 (va_rf rb :: [a1]) σ (some (va_rf r), u)) (k : X (pc + 3) lv (va_rf r :: st) u) : X pc lv (a1 :: va_rf rb :: st) σ := ow_cVq hX (as := [a1]) d (List.mem_of_getElem? (i := 52) rfl) oM_234 rfl rfl rfl hc hb ⟨by decide, rfl⟩ hk k
theorem oc_RX0_66 (hX : oSem RX0 cc nL kd ret κ kc w0 X) {a1 : Value} {rb : Option Nat} {b : Nat} (d : decode cc pc = .ok (.invokespecial 66, 3)) (hc : (st.map fun v => v.category).sum ≤ 8) (hb : rb = some b) (hk : kc 1 (va_rf rb :: [a1]) σ (none, u)) (k : X (pc + 3) lv st u) : X pc lv (a1 :: va_rf rb :: st) σ := ow_cI hX (as := [a1]) d (List.mem_of_getElem? (i := 53) rfl) oM_1 rfl rfl rfl hc hb hk k
theorem oc_RX0_75 (hX : oSem RX0 cc nL kd ret κ kc w0 X) {a1 : Value} {a2 : Value} {rb : Option Nat} {b : Nat} (d : decode cc pc = .ok (.invokespecial 75, 3)) (hc : (st.map fun v => v.category).sum ≤ 8) (hb : rb = some b) (hk : kc 2 (va_rf rb :: [a1, a2]) σ (none, u)) (k : X (pc + 3) lv st u) : X pc lv (a2 :: a1 :: va_rf rb :: st) σ := ow_cI hX (as := [a1, a2]) d (List.mem_of_getElem? (i := 54) rfl) oM_2 rfl rfl rfl hc hb hk k
theorem oc_RX0_82 (hX : oSem RX0 cc nL kd ret κ kc w0 X) {a1 : Value} {a2 : Value} {r : Option Nat} {rb : Option Nat} {b : Nat} (d : decode cc pc = .ok (.invokevirtual 82, 3)) (hc : (st.map fun v => v.category).sum ≤ 16) (hb : oob σ rb 2 = some b) (hk : kc 30 (va_rf rb :: [a1, a2]) σ (some (va_rf r), u)) (k : X (pc + 3) lv (va_rf r :: st) u) : X pc lv (a2 :: a1 :: va_rf rb :: st) σ := ow_cVq hX (as := [a1, a2]) d (List.mem_of_getElem? (i := 55) rfl) oM_30 rfl rfl rfl hc hb ⟨by decide, rfl⟩ hk k
theorem oc_RX0_86 (hX : oSem RX0 cc nL kd ret κ kc w0 X) {r : Int32} {rb : Option Nat} {b : Nat} (d : decode cc pc = .ok (.invokevirtual 86, 3)) (hc : (st.map fun v => v.category).sum ≤ 16) (hb : oob σ rb 1 = some b) (hk : kc 236 (va_rf rb :: []) σ (some (.int r), u)) (k : X (pc + 3) lv (.int r :: st) u) : X pc lv (va_rf rb :: st) σ := ow_cVi hX (as := []) d (List.mem_of_getElem? (i := 56) rfl) oM_236 rfl rfl rfl hc hb ⟨by decide, rfl⟩ hk k
theorem oc_RX0_102 (hX : oSem RX0 cc nL kd ret κ kc w0 X) {a1 : Value} {a2 : Value} {r : Int32} {rb : Option Nat} {b : Nat} (d : decode cc pc = .ok (.invokevirtual 102, 3)) (hc : (st.map fun v => v.category).sum ≤ 16) (hb : oob σ rb 3 = some b) (hk : kc 64 (va_rf rb :: [a1, a2]) σ (some (.int r), u)) (k : X (pc + 3) lv (.int r :: st) u) : X pc lv (a2 :: a1 :: va_rf rb :: st) σ := ow_cVi hX (as := [a1, a2]) d (List.mem_of_getElem? (i := 57) rfl) oM_64 rfl rfl rfl hc hb ⟨by decide, rfl⟩ hk k
theorem oc_RX0_115 (hX : oSem RX0 cc nL kd ret κ kc w0 X) {a1 : Value} {r : Int32} {rb : Option Nat} {b : Nat} (d : decode cc pc = .ok (.invokevirtual 115, 3)) (hc : (st.map fun v => v.category).sum ≤ 16) (hb : oob σ rb 2 = some b) (hk : kc 66 (va_rf rb :: [a1]) σ (some (.int r), u)) (k : X (pc + 3) lv (.int r :: st) u) : X pc lv (a1 :: va_rf rb :: st) σ := ow_cVi hX (as := [a1]) d (List.mem_of_getElem? (i := 58) rfl) oM_66 rfl rfl rfl hc hb ⟨by decide, rfl⟩ hk k
theorem oc_RX0_119 (hX : oSem RX0 cc nL kd ret κ kc w0 X) {a1 : Value} {a2 : Value} {a3 : Value} {r : Int32} {rb : Option Nat} {b : Nat} (d : decode cc pc = .ok (.invokevirtual 119, 3)) (hc : (st.map fun v => v.category).sum ≤ 16) (hb : oob σ rb 3 = some b) (hk : kc 67 (va_rf rb :: [a1, a2, a3]) σ (some (.int r), u)) (k : X (pc + 3) lv (.int r :: st) u) : X pc lv (a3 :: a2 :: a1 :: va_rf rb :: st) σ := ow_cVi hX (as := [a1, a2, a3]) d (List.mem_of_getElem? (i := 59) rfl) oM_67 rfl rfl rfl hc hb ⟨by decide, rfl⟩ hk k
theorem oc_RX0_139 (hX : oSem RX0 cc nL kd ret κ kc w0 X) {a1 : Value} {r : Int32} {rb : Option Nat} {b : Nat} (d : decode cc pc = .ok (.invokevirtual 139, 3)) (hc : (st.map fun v => v.category).sum ≤ 16) (hb : oob σ rb 1 = some b) (hk : kc 227 (va_rf rb :: [a1]) σ (some (.int r), u)) (k : X (pc + 3) lv (.int r :: st) u) : X pc lv (a1 :: va_rf rb :: st) σ := ow_cVi hX (as := [a1]) d (List.mem_of_getElem? (i := 60) rfl) oM_227 rfl rfl rfl hc hb ⟨by decide, rfl⟩ hk k
theorem oc_RX0_146 (hX : oSem RX0 cc nL kd ret κ kc w0 X) {a1 : Value} {a2 : Value} {r : Option Nat} {rb : Option Nat} {b : Nat} (d : decode cc pc = .ok (.invokevirtual 146, 3)) (hc : (st.map fun v => v.category).sum ≤ 16) (hb : oob σ rb 2 = some b) (hk : kc 34 (va_rf rb :: [a1, a2]) σ (some (va_rf r), u)) (k : X (pc + 3) lv (va_rf r :: st) u) : X pc lv (a2 :: a1 :: va_rf rb :: st) σ := ow_cVq hX (as := [a1, a2]) d (List.mem_of_getElem? (i := 61) rfl) oM_34 rfl rfl rfl hc hb ⟨by decide, rfl⟩ hk k
theorem oc_RX0_149 (hX : oSem RX0 cc nL kd ret κ kc w0 X) {a1 : Value} {a2 : Value} {r : Option Nat} {rb : Option Nat} {b : Nat} (d : decode cc pc = .ok (.invokevirtual 149, 3)) (hc : (st.map fun v => v.category).sum ≤ 16) (hb : oob σ rb 2 = some b) (hk : kc 36 (va_rf rb :: [a1, a2]) σ (some (va_rf r), u)) (k : X (pc + 3) lv (va_rf r :: st) u) : X pc lv (a2 :: a1 :: va_rf rb :: st) σ := ow_cVq hX (as := [a1, a2]) d (List.mem_of_getElem? (i := 62) rfl) oM_36 rfl rfl rfl hc hb ⟨by decide, rfl⟩ hk k
theorem oc_RX0_152 (hX : oSem RX0 cc nL kd ret κ kc w0 X) {a1 : Value} {a2 : Value} {r : Option Nat} {rb : Option Nat} {b : Nat} (d : decode cc pc = .ok (.invokevirtual 152, 3)) (hc : (st.map fun v => v.category).sum ≤ 16) (hb : oob σ rb 2 = some b) (hk : kc 32 (va_rf rb :: [a1, a2]) σ (some (va_rf r), u)) (k : X (pc + 3) lv (va_rf r :: st) u) : X pc lv (a2 :: a1 :: va_rf rb :: st) σ := ow_cVq hX (as := [a1, a2]) d (List.mem_of_getElem? (i := 63) rfl) oM_32 rfl rfl rfl hc hb ⟨by decide, rfl⟩ hk k
theorem oc_RX0_155 (hX : oSem RX0 cc nL kd ret κ kc w0 X) {a1 : Value} {a2 : Value} {r : Option Nat} {rb : Option Nat} {b : Nat} (d : decode cc pc = .ok (.invokevirtual 155, 3)) (hc : (st.map fun v => v.category).sum ≤ 16) (hb : oob σ rb 2 = some b) (hk : kc 33 (va_rf rb :: [a1, a2]) σ (some (va_rf r), u)) (k : X (pc + 3) lv (va_rf r :: st) u) : X pc lv (a2 :: a1 :: va_rf rb :: st) σ := ow_cVq hX (as := [a1, a2]) d (List.mem_of_getElem? (i := 64) rfl) oM_33 rfl rfl rfl hc hb ⟨by decide, rfl⟩ hk k
theorem oc_RX0_158 (hX : oSem RX0 cc nL kd ret κ kc w0 X) {a1 : Value} {a2 : Value} {r : Option Nat} {rb : Option Nat} {b : Nat} (d : decode cc pc = .ok (.invokevirtual 158, 3)) (hc : (st.map fun v => v.category).sum ≤ 16) (hb : oob σ rb 2 = some b) (hk : kc 35 (va_rf rb :: [a1, a2]) σ (some (va_rf r), u)) (k : X (pc + 3) lv (va_rf r :: st) u) : X pc lv (a2 :: a1 :: va_rf rb :: st) σ := ow_cVq hX (as := [a1, a2]) d (List.mem_of_getElem? (i := 65) rfl) oM_35 rfl rfl rfl hc hb ⟨by decide, rfl⟩ hk k
theorem oc_RX0_161 (hX : oSem RX0 cc nL kd ret κ kc w0 X) {a1 : Value} {a2 : Value} {r : Option Nat} {rb : Option Nat} {b : Nat} (d : decode cc pc = .ok (.invokevirtual 161, 3)) (hc : (st.map fun v => v.category).sum ≤ 16) (hb : oob σ rb 2 = some b) (hk : kc 31 (va_rf rb :: [a1, a2]) σ (some (va_rf r), u)) (k : X (pc + 3) lv (va_rf r :: st) u) : X pc lv (a2 :: a1 :: va_rf rb :: st) σ := ow_cVq hX (as := [a1, a2]) d (List.mem_of_getElem? (i := 66) rfl) oM_31 rfl rfl rfl hc hb ⟨by decide, rfl⟩ hk k
theorem oc_RX0_170 (hX : oSem RX0 cc nL kd ret κ kc w0 X) {a1 : Value} {a2 : Value} {a3 : Value} {rb : Option Nat} {b : Nat} (d : decode cc pc = .ok (.invokespecial 170, 3)) (hc : (st.map fun v => v.category).sum ≤ 8) (hb : rb = some b) (hk : kc 13 (va_rf rb :: [a1, a2, a3]) σ (none, u)) (k : X (pc + 3) lv st u) : X pc lv (a3 :: a2 :: a1 :: va_rf rb :: st) σ := ow_cI hX (as := [a1, a2, a3]) d (List.mem_of_getElem? (i := 67) rfl) oM_13 rfl rfl rfl hc hb hk k
theorem oc_RX0_173 (hX : oSem RX0 cc nL kd ret κ kc w0 X) {a1 : Value} {r : Option Nat} (d : decode cc pc = .ok (.invokestatic 173, 3)) (hc : (st.map fun v => v.category).sum ≤ 16) (hk : kc 20 [a1] σ (some (va_rf r), u)) (k : X (pc + 3) lv (va_rf r :: st) u) : X pc lv (a1 :: st) σ := os_callSq hX (as := [a1]) d (List.mem_of_getElem? (i := 68) rfl) oM_20 rfl rfl rfl hc hk k
theorem oc_RX0_180 (hX : oSem RX0 cc nL kd ret κ kc w0 X) {a1 : Value} {a2 : Value} {r : Option Nat} (d : decode cc pc = .ok (.invokestatic 180, 3)) (hc : (st.map fun v => v.category).sum ≤ 16) (hk : kc 17 [a1, a2] σ (some (va_rf r), u)) (k : X (pc + 3) lv (va_rf r :: st) u) : X pc lv (a2 :: a1 :: st) σ := os_callSq hX (as := [a1, a2]) d (List.mem_of_getElem? (i := 69) rfl) oM_17 rfl rfl rfl hc hk k
theorem oc_RX0_192 (hX : oSem RX0 cc nL kd ret κ kc w0 X) {a1 : Value} {a2 : Value} {a3 : Value} {r : Option Nat} (d : decode cc pc = .ok (.invokestatic 192, 3)) (hc : (st.map fun v => v.category).sum ≤ 16) (hk : kc 11 [a1, a2, a3] σ (some (va_rf r), u)) (k : X (pc + 3) lv (va_rf r :: st) u) : X pc lv (a3 :: a2 :: a1 :: st) σ := os_callSq hX (as := [a1, a2, a3]) d (List.mem_of_getElem? (i := 70) rfl) oM_11 rfl rfl rfl hc hk k
theorem oc_RX0_198 (hX : oSem RX0 cc nL kd ret κ kc w0 X) {a1 : Value} {a2 : Value} {r : Option Nat} (d : decode cc pc = .ok (.invokestatic 198, 3)) (hc : (st.map fun v => v.category).sum ≤ 16) (hk : kc 18 [a1, a2] σ (some (va_rf r), u)) (k : X (pc + 3) lv (va_rf r :: st) u) : X pc lv (a2 :: a1 :: st) σ := os_callSq hX (as := [a1, a2]) d (List.mem_of_getElem? (i := 71) rfl) oM_18 rfl rfl rfl hc hk k
theorem oc_RX0_202 (hX : oSem RX0 cc nL kd ret κ kc w0 X) {a1 : Value} {r : Option Nat} (d : decode cc pc = .ok (.invokestatic 202, 3)) (hc : (st.map fun v => v.category).sum ≤ 16) (hk : kc 19 [a1] σ (some (va_rf r), u)) (k : X (pc + 3) lv (va_rf r :: st) u) : X pc lv (a1 :: st) σ := os_callSq hX (as := [a1]) d (List.mem_of_getElem? (i := 72) rfl) oM_19 rfl rfl rfl hc hk k
theorem oc_RX0_208 (hX : oSem RX0 cc nL kd ret κ kc w0 X) {r : Int32} {rb : Option Nat} {b : Nat} (d : decode cc pc = .ok (.invokevirtual 208, 3)) (hc : (st.map fun v => v.category).sum ≤ 16) (hb : oob σ rb 6 = some b) (hk : kc 6 (va_rf rb :: []) σ (some (.int r), u)) (k : X (pc + 3) lv (.int r :: st) u) : X pc lv (va_rf rb :: st) σ := ow_cVi hX (as := []) d (List.mem_of_getElem? (i := 73) rfl) oM_6 rfl rfl rfl hc hb ⟨by decide, rfl⟩ hk k
theorem oc_RX0_217 (hX : oSem RX0 cc nL kd ret κ kc w0 X) {a1 : Value} {rb : Option Nat} {b : Nat} (d : decode cc pc = .ok (.invokevirtual 217, 3)) (hc : (st.map fun v => v.category).sum ≤ 16) (hb : oob σ rb 4 = some b) (hk : kc 15 (va_rf rb :: [a1]) σ (none, u)) (k : X (pc + 3) lv (st) u) : X pc lv (a1 :: va_rf rb :: st) σ := ow_cVv hX (as := [a1]) d (List.mem_of_getElem? (i := 74) rfl) oM_15 rfl rfl rfl hc hb ⟨by decide, rfl⟩ hk k
theorem oc_RX0_220 (hX : oSem RX0 cc nL kd ret κ kc w0 X) {a1 : Value} {a2 : Value} {rb : Option Nat} {b : Nat} (d : decode cc pc = .ok (.invokevirtual 220, 3)) (hc : (st.map fun v => v.category).sum ≤ 16) (hb : oob σ rb 4 = some b) (hk : kc 16 (va_rf rb :: [a1, a2]) σ (none, u)) (k : X (pc + 3) lv (st) u) : X pc lv (a2 :: a1 :: va_rf rb :: st) σ := ow_cVv hX (as := [a1, a2]) d (List.mem_of_getElem? (i := 75) rfl) oM_16 rfl rfl rfl hc hb ⟨by decide, rfl⟩ hk k
theorem oc_RX0_229 (hX : oSem RX0 cc nL kd ret κ kc w0 X) {a1 : Value} {a2 : Value} {a3 : Value} {r : Option Nat} {rb : Option Nat} {b : Nat} (d : decode cc pc = .ok (.invokevirtual 229, 3)) (hc : (st.map fun v => v.category).sum ≤ 16) (hb : oob σ rb 2 = some b) (hk : kc 28 (va_rf rb :: [a1, a2, a3]) σ (some (va_rf r), u)) (k : X (pc + 3) lv (va_rf r :: st) u) : X pc lv (a3 :: a2 :: a1 :: va_rf rb :: st) σ := ow_cVq hX (as := [a1, a2, a3]) d (List.mem_of_getElem? (i := 76) rfl) oM_28 rfl rfl rfl hc hb ⟨by decide, rfl⟩ hk k
theorem oc_RX0_236 (hX : oSem RX0 cc nL kd ret κ kc w0 X) {a1 : Value} {a2 : Value} {a3 : Value} {rb : Option Nat} {b : Nat} (d : decode cc pc = .ok (.invokevirtual 236, 3)) (hc : (st.map fun v => v.category).sum ≤ 16) (hb : oob σ rb 2 = some b) (hk : kc 12 (va_rf rb :: [a1, a2, a3]) σ (none, u)) (k : X (pc + 3) lv (st) u) : X pc lv (a3 :: a2 :: a1 :: va_rf rb :: st) σ := ow_cVv hX (as := [a1, a2, a3]) d (List.mem_of_getElem? (i := 77) rfl) oM_12 rfl rfl rfl hc hb ⟨by decide, rfl⟩ hk k
theorem oc_RX0_244 (hX : oSem RX0 cc nL kd ret κ kc w0 X) {a1 : Value} {a2 : Value} {a3 : Value} {rb : Option Nat} {b : Nat} (d : decode cc pc = .ok (.invokevirtual 244, 3)) (hc : (st.map fun v => v.category).sum ≤ 16) (hb : oob σ rb 2 = some b) (hk : kc 29 (va_rf rb :: [a1, a2, a3]) σ (none, u)) (k : X (pc + 3) lv (st) u) : X pc lv (a3 :: a2 :: a1 :: va_rf rb :: st) σ := ow_cVv hX (as := [a1, a2, a3]) d (List.mem_of_getElem? (i := 78) rfl) oM_29 rfl rfl rfl hc hb ⟨by decide, rfl⟩ hk k
theorem oc_RX0_248 (hX : oSem RX0 cc nL kd ret κ kc w0 X) {a1 : Value} {r : Option Nat} {rb : Option Nat} {b : Nat} (d : decode cc pc = .ok (.invokevirtual 248, 3)) (hc : (st.map fun v => v.category).sum ≤ 16) (hb : oob σ rb 4 = some b) (hk : kc 4 (va_rf rb :: [a1]) σ (some (va_rf r), u)) (k : X (pc + 3) lv (va_rf r :: st) u) : X pc lv (a1 :: va_rf rb :: st) σ := ow_cVq hX (as := [a1]) d (List.mem_of_getElem? (i := 79) rfl) oM_4 rfl rfl rfl hc hb ⟨by decide, rfl⟩ hk k
theorem oc_RX0_258 (hX : oSem RX0 cc nL kd ret κ kc w0 X) {r : Option Nat} {rb : Option Nat} {b : Nat} (d : decode cc pc = .ok (.invokevirtual 258, 3)) (hc : (st.map fun v => v.category).sum ≤ 16) (hb : oob σ rb 4 = some b) (hk : kc 5 (va_rf rb :: []) σ (some (va_rf r), u)) (k : X (pc + 3) lv (va_rf r :: st) u) : X pc lv (va_rf rb :: st) σ := ow_cVq hX (as := []) d (List.mem_of_getElem? (i := 80) rfl) oM_5 rfl rfl rfl hc hb ⟨by decide, rfl⟩ hk k
theorem oc_RX0_265 (hX : oSem RX0 cc nL kd ret κ kc w0 X) {a1 : Value} {a2 : Value} {rb : Option Nat} {b : Nat} (d : decode cc pc = .ok (.invokespecial 265, 3)) (hc : (st.map fun v => v.category).sum ≤ 8) (hb : rb = some b) (hk : kc 7 (va_rf rb :: [a1, a2]) σ (none, u)) (k : X (pc + 3) lv st u) : X pc lv (a2 :: a1 :: va_rf rb :: st) σ := ow_cI hX (as := [a1, a2]) d (List.mem_of_getElem? (i := 81) rfl) oM_7 rfl rfl rfl hc hb hk k
theorem oc_RX0_271 (hX : oSem RX0 cc nL kd ret κ kc w0 X) {a1 : Value} {a2 : Value} {a3 : Value} {r : Option Nat} {rb : Option Nat} {b : Nat} (d : decode cc pc = .ok (.invokevirtual 271, 3)) (hc : (st.map fun v => v.category).sum ≤ 16) (hb : oob σ rb 2 = some b) (hk : kc 27 (va_rf rb :: [a1, a2, a3]) σ (some (va_rf r), u)) (k : X (pc + 3) lv (va_rf r :: st) u) : X pc lv (a3 :: a2 :: a1 :: va_rf rb :: st) σ := ow_cVq hX (as := [a1, a2, a3]) d (List.mem_of_getElem? (i := 82) rfl) oM_27 rfl rfl rfl hc hb ⟨by decide, rfl⟩ hk k
theorem oc_RX0_275 (hX : oSem RX0 cc nL kd ret κ kc w0 X) {a1 : Value} {r : Int32} {rb : Option Nat} {b : Nat} (d : decode cc pc = .ok (.invokevirtual 275, 3)) (hc : (st.map fun v => v.category).sum ≤ 16) (hb : oob σ rb 12 = some b) (hk : kc 22 (va_rf rb :: [a1]) σ (some (.int r), u)) (k : X (pc + 3) lv (.int r :: st) u) : X pc lv (a1 :: va_rf rb :: st) σ := ow_cVi hX (as := [a1]) d (List.mem_of_getElem? (i := 83) rfl) oM_22 rfl rfl rfl hc hb ⟨by decide, rfl⟩ hk k
theorem oc_RX0_280 (hX : oSem RX0 cc nL kd ret κ kc w0 X) {a1 : Value} {r : Int32} {rb : Option Nat} {b : Nat} (d : decode cc pc = .ok (.invokevirtual 280, 3)) (hc : (st.map fun v => v.category).sum ≤ 16) (hb : oob σ rb 12 = some b) (hk : kc 23 (va_rf rb :: [a1]) σ (some (.int r), u)) (k : X (pc + 3) lv (.int r :: st) u) : X pc lv (a1 :: va_rf rb :: st) σ := ow_cVi hX (as := [a1]) d (List.mem_of_getElem? (i := 84) rfl) oM_23 rfl rfl rfl hc hb ⟨by decide, rfl⟩ hk k
theorem oc_RX0_286 (hX : oSem RX0 cc nL kd ret κ kc w0 X) {a1 : Value} {r : Int32} {rb : Option Nat} {b : Nat} (d : decode cc pc = .ok (.invokevirtual 286, 3)) (hc : (st.map fun v => v.category).sum ≤ 16) (hb : oob σ rb 12 = some b) (hk : kc 24 (va_rf rb :: [a1]) σ (some (.int r), u)) (k : X (pc + 3) lv (.int r :: st) u) : X pc lv (a1 :: va_rf rb :: st) σ := ow_cVi hX (as := [a1]) d (List.mem_of_getElem? (i := 85) rfl) oM_24 rfl rfl rfl hc hb ⟨by decide, rfl⟩ hk k
theorem oc_RX0_292 (hX : oSem RX0 cc nL kd ret κ kc w0 X) {a1 : Value} {rb : Option Nat} {b : Nat} (d : decode cc pc = .ok (.invokevirtual 292, 3)) (hc : (st.map fun v => v.category).sum ≤ 16) (hb : oob σ rb 2 = some b) (hk : kc 26 (va_rf rb :: [a1]) σ (none, u)) (k : X (pc + 3) lv (st) u) : X pc lv (a1 :: va_rf rb :: st) σ := ow_cVv hX (as := [a1]) d (List.mem_of_getElem? (i := 86) rfl) oM_26 rfl rfl rfl hc hb ⟨by decide, rfl⟩ hk k
theorem oc_RX0_312 (hX : oSem RX0 cc nL kd ret κ kc w0 X) {a1 : Value} {a2 : Value} {r : Option Nat} {rb : Option Nat} {b : Nat} (d : decode cc pc = .ok (.invokevirtual 312, 3)) (hc : (st.map fun v => v.category).sum ≤ 16) (hb : oob σ rb 2 = some b) (hk : kc 25 (va_rf rb :: [a1, a2]) σ (some (va_rf r), u)) (k : X (pc + 3) lv (va_rf r :: st) u) : X pc lv (a2 :: a1 :: va_rf rb :: st) σ := ow_cVq hX (as := [a1, a2]) d (List.mem_of_getElem? (i := 87) rfl) oM_25 rfl rfl rfl hc hb ⟨by decide, rfl⟩ hk k
theorem oc_RX1_50 (hX : oSem RX1 cc nL kd ret κ kc w0 X) {a1 : Value} {a2 : Value} {rb : Option Nat} {b : Nat} (d : decode cc pc = .ok (.invokevirtual 50, 3)) (hc : (st.map fun v => v.category).sum ≤ 16) (hb : oob σ rb 3 = some b) (hk : kc 57 (va_rf rb :: [a1, a2]) σ (none, u)) (k : X (pc + 3) lv (st) u) : X pc lv (a2 :: a1 :: va_rf rb :: st) σ := ow_cVv hX (as := [a1, a2]) d (List.mem_of_getElem? (i := 88) rfl) oM_57 rfl rfl rfl hc hb ⟨by decide, rfl⟩ hk k
theorem oc_RX1_54 (hX : oSem RX1 cc nL kd ret κ kc w0 X) {rb : Option Nat} {b : Nat} (d : decode cc pc = .ok (.invokevirtual 54, 3)) (hc : (st.map fun v => v.category).sum ≤ 16) (hb : oob σ rb 8 = some b) (hk : kc 58 (va_rf rb :: []) σ (none, u)) (k : X (pc + 3) lv (st) u) : X pc lv (va_rf rb :: st) σ := ow_cVv hX (as := []) d (List.mem_of_getElem? (i := 89) rfl) oM_58 rfl rfl rfl hc hb ⟨by decide, rfl⟩ hk k
theorem oc_RX1_57 (hX : oSem RX1 cc nL kd ret κ kc w0 X) {a1 : Value} {rb : Option Nat} {b : Nat} (d : decode cc pc = .ok (.invokevirtual 57, 3)) (hc : (st.map fun v => v.category).sum ≤ 16) (hb : oob σ rb 3 = some b) (hk : kc 63 (va_rf rb :: [a1]) σ (none, u)) (k : X (pc + 3) lv (st) u) : X pc lv (a1 :: va_rf rb :: st) σ := ow_cVv hX (as := [a1]) d (List.mem_of_getElem? (i := 90) rfl) oM_63 rfl rfl rfl hc hb ⟨by decide, rfl⟩ hk k
theorem oc_RX1_61 (hX : oSem RX1 cc nL kd ret κ kc w0 X) {a1 : Value} {r : Int32} (d : decode cc pc = .ok (.invokestatic 61, 3)) (hc : (st.map fun v => v.category).sum ≤ 16) (hk : kc 39 [a1] σ (some (.int r), u)) (k : X (pc + 3) lv (.int r :: st) u) : X pc lv (a1 :: st) σ := os_callSi hX (as := [a1]) d (List.mem_of_getElem? (i := 91) rfl) oM_39 rfl rfl rfl hc hk k
theorem oc_RX1_69 (hX : oSem RX1 cc nL kd ret κ kc w0 X) {a1 : Value} {a2 : Value} {rb : Option Nat} {b : Nat} (d : decode cc pc = .ok (.invokevirtual 69, 3)) (hc : (st.map fun v => v.category).sum ≤ 16) (hb : oob σ rb 3 = some b) (hk : kc 56 (va_rf rb :: [a1, a2]) σ (none, u)) (k : X (pc + 3) lv (st) u) : X pc lv (a2 :: a1 :: va_rf rb :: st) σ := ow_cVv hX (as := [a1, a2]) d (List.mem_of_getElem? (i := 92) rfl) oM_56 rfl rfl rfl hc hb ⟨by decide, rfl⟩ hk k
theorem oc_RX1_80 (hX : oSem RX1 cc nL kd ret κ kc w0 X) {r : Int32} {rb : Option Nat} {b : Nat} (d : decode cc pc = .ok (.invokevirtual 80, 3)) (hc : (st.map fun v => v.category).sum ≤ 16) (hb : oob σ rb 11 = some b) (hk : kc 38 (va_rf rb :: []) σ (some (.int r), u)) (k : X (pc + 3) lv (.int r :: st) u) : X pc lv (va_rf rb :: st) σ := ow_cVi hX (as := []) d (List.mem_of_getElem? (i := 93) rfl) oM_38 rfl rfl rfl hc hb ⟨by decide, rfl⟩ hk k
theorem oc_RX1_90 (hX : oSem RX1 cc nL kd ret κ kc w0 X) {r : Int32} {rb : Option Nat} {b : Nat} (d : decode cc pc = .ok (.invokevirtual 90, 3)) (hc : (st.map fun v => v.category).sum ≤ 16) (hb : oob σ rb 1 = some b) (hk : kc 236 (va_rf rb :: []) σ (some (.int r), u)) (k : X (pc + 3) lv (.int r :: st) u) : X pc lv (va_rf rb :: st) σ := ow_cVi hX (as := []) d (List.mem_of_getElem? (i := 94) rfl) oM_236 rfl rfl rfl hc hb ⟨by decide, rfl⟩ hk k
theorem oc_RX1_96 (hX : oSem RX1 cc nL kd ret κ kc w0 X) {a1 : Value} {r : Option Nat} {rb : Option Nat} {b : Nat} (d : decode cc pc = .ok (.invokevirtual 96, 3)) (hc : (st.map fun v => v.category).sum ≤ 16) (hb : oob σ rb 1 = some b) (hk : kc 234 (va_rf rb :: [a1]) σ (some (va_rf r), u)) (k : X (pc + 3) lv (va_rf r :: st) u) : X pc lv (a1 :: va_rf rb :: st) σ := ow_cVq hX (as := [a1]) d (List.mem_of_getElem? (i := 95) rfl) oM_234 rfl rfl rfl hc hb ⟨by decide, rfl⟩ hk k
theorem oc_RX1_115 (hX : oSem RX1 cc nL kd ret κ kc w0 X) {r : Int32} {rb : Option Nat} {b : Nat} (d : decode cc pc = .ok (.invokevirtual 115, 3)) (hc : (st.map fun v => v.category).sum ≤ 16) (hb : oob σ rb 6 = some b) (hk : kc 6 (va_rf rb :: []) σ (some (.int r), u)) (k : X (pc + 3) lv (.int r :: st) u) : X pc lv (va_rf rb :: st) σ := ow_cVi hX (as := []) d (List.mem_of_getElem? (i := 96) rfl) oM_6 rfl rfl rfl hc hb ⟨by decide, rfl⟩ hk k
theorem oc_RX1_126 (hX : oSem RX1 cc nL kd ret κ kc w0 X) {a1 : Value} {rb : Option Nat} {b : Nat} (d : decode cc pc = .ok (.invokevirtual 126, 3)) (hc : (st.map fun v => v.category).sum ≤ 16) (hb : oob σ rb 8 = some b) (hk : kc 41 (va_rf rb :: [a1]) σ (none, u)) (k : X (pc + 3) lv (st) u) : X pc lv (a1 :: va_rf rb :: st) σ := ow_cVv hX (as := [a1]) d (List.mem_of_getElem? (i := 97) rfl) oM_41 rfl rfl rfl hc hb ⟨by decide, rfl⟩ hk k
theorem oc_RX1_129 (hX : oSem RX1 cc nL kd ret κ kc w0 X) {a1 : Value} {a2 : Value} {rb : Option Nat} {b : Nat} (d : decode cc pc = .ok (.invokevirtual 129, 3)) (hc : (st.map fun v => v.category).sum ≤ 16) (hb : oob σ rb 3 = some b) (hk : kc 50 (va_rf rb :: [a1, a2]) σ (none, u)) (k : X (pc + 3) lv (st) u) : X pc lv (a2 :: a1 :: va_rf rb :: st) σ := ow_cVv hX (as := [a1, a2]) d (List.mem_of_getElem? (i := 98) rfl) oM_50 rfl rfl rfl hc hb ⟨by decide, rfl⟩ hk k
theorem oc_RX1_144 (hX : oSem RX1 cc nL kd ret κ kc w0 X) {a1 : Value} {a2 : Value} {a3 : Value} {rb : Option Nat} {b : Nat} (d : decode cc pc = .ok (.invokevirtual 144, 3)) (hc : (st.map fun v => v.category).sum ≤ 16) (hb : oob σ rb 8 = some b) (hk : kc 44 (va_rf rb :: [a1, a2, a3]) σ (none, u)) (k : X (pc + 3) lv (st) u) : X pc lv (a3 :: a2 :: a1 :: va_rf rb :: st) σ := ow_cVv hX (as := [a1, a2, a3]) d (List.mem_of_getElem? (i := 99) rfl) oM_44 rfl rfl rfl hc hb ⟨by decide, rfl⟩ hk k
theorem oc_RX1_148 (hX : oSem RX1 cc nL kd ret κ kc w0 X) {a1 : Value} {rb : Option Nat} {b : Nat} (d : decode cc pc = .ok (.invokevirtual 148, 3)) (hc : (st.map fun v => v.category).sum ≤ 16) (hb : oob σ rb 4 = some b) (hk : kc 46 (va_rf rb :: [a1]) σ (none, u)) (k : X (pc + 3) lv (st) u) : X pc lv (a1 :: va_rf rb :: st) σ := ow_cVv hX (as := [a1]) d (List.mem_of_getElem? (i := 100) rfl) oM_46 rfl rfl rfl hc hb ⟨by decide, rfl⟩ hk k
theorem oc_RX1_151 (hX : oSem RX1 cc nL kd ret κ kc w0 X) {a1 : Value} {a2 : Value} {a3 : Value} {r : Int32} {rb : Option Nat} {b : Nat} (d : decode cc pc = .ok (.invokevirtual 151, 3)) (hc : (st.map fun v => v.category).sum ≤ 16) (hb : oob σ rb 3 = some b) (hk : kc 49 (va_rf rb :: [a1, a2, a3]) σ (some (.int r), u)) (k : X (pc + 3) lv (.int r :: st) u) : X pc lv (a3 :: a2 :: a1 :: va_rf rb :: st) σ := ow_cVi hX (as := [a1, a2, a3]) d (List.mem_of_getElem? (i := 101) rfl) oM_49 rfl rfl rfl hc hb ⟨by decide, rfl⟩ hk k
theorem oc_RX1_168 (hX : oSem RX1 cc nL kd ret κ kc w0 X) {a1 : Value} {a2 : Value} {r : Int32} (d : decode cc pc = .ok (.invokestatic 168, 3)) (hc : (st.map fun v => v.category).sum ≤ 16) (hk : kc 47 [a1, a2] σ (some (.int r), u)) (k : X (pc + 3) lv (.int r :: st) u) : X pc lv (a2 :: a1 :: st) σ := os_callSi hX (as := [a1, a2]) d (List.mem_of_getElem? (i := 102) rfl) oM_47 rfl rfl rfl hc hk k
theorem oc_RX1_172 (hX : oSem RX1 cc nL kd ret κ kc w0 X) {a1 : Value} {a2 : Value} {a3 : Value} {r : Int32} {rb : Option Nat} {b : Nat} (d : decode cc pc = .ok (.invokevirtual 172, 3)) (hc : (st.map fun v => v.category).sum ≤ 16) (hb : oob σ rb 8 = some b) (hk : kc 48 (va_rf rb :: [a1, a2, a3]) σ (some (.int r), u)) (k : X (pc + 3) lv (.int r :: st) u) : X pc lv (a3 :: a2 :: a1 :: va_rf rb :: st) σ := ow_cVi hX (as := [a1, a2, a3]) d (List.mem_of_getElem? (i := 103) rfl) oM_48 rfl rfl rfl hc hb ⟨by decide, rfl⟩ hk k
theorem oc_RX1_179 (hX : oSem RX1 cc nL kd ret κ kc w0 X) {a1 : Value} {a2 : Value} {rb : Option Nat} {b : Nat} (d : decode cc pc = .ok (.invokevirtual 179, 3)) (hc : (st.map fun v => v.category).sum ≤ 16) (hb : oob σ rb 3 = some b) (hk : kc 51 (va_rf rb :: [a1, a2]) σ (none, u)) (k : X (pc + 3) lv (st) u) : X pc lv (a2 :: a1 :: va_rf rb :: st) σ := ow_cVv hX (as := [a1, a2]) d (List.mem_of_getElem? (i := 104) rfl) oM_51 rfl rfl rfl hc hb ⟨by decide, rfl⟩ hk k
theorem oc_RX1_183 (hX : oSem RX1 cc nL kd ret κ kc w0 X) {a1 : Value} {a2 : Value} {rb : Option Nat} {b : Nat} (d : decode cc pc = .ok (.invokevirtual 183, 3)) (hc : (st.map fun v => v.category).sum ≤ 16) (hb : oob σ rb 3 = some b) (hk : kc 52 (va_rf rb :: [a1, a2]) σ (none, u)) (k : X (pc + 3) lv (st) u) : X pc lv (a2 :: a1 :: va_rf rb :: st) σ := ow_cVv hX (as := [a1, a2]) d (List.mem_of_getElem? (i := 105) rfl) oM_52 rfl rfl rfl hc hb ⟨by decide, rfl⟩ hk k
theorem oc_RX1_187 (hX : oSem RX1 cc nL kd ret κ kc w0 X) {a1 : Value} {a2 : Value} {rb : Option Nat} {b : Nat} (d : decode cc pc = .ok (.invokevirtual 187, 3)) (hc : (st.map fun v => v.category).sum ≤ 16) (hb : oob σ rb 3 = some b) (hk : kc 55 (va_rf rb :: [a1, a2]) σ (none, u)) (k : X (pc + 3) lv (st) u) : X pc lv (a2 :: a1 :: va_rf rb :: st) σ := ow_cVv hX (as := [a1, a2]) d (List.mem_of_getElem? (i := 106) rfl) oM_55 rfl rfl rfl hc hb ⟨by decide, rfl⟩ hk k
theorem oc_RX1_194 (hX : oSem RX1 cc nL kd ret κ kc w0 X) {a1 : Value} {r : Int32} (d : decode cc pc = .ok (.invokestatic 194, 3)) (hc : (st.map fun v => v.category).sum ≤ 16) (hk : kc 53 [a1] σ (some (.int r), u)) (k : X (pc + 3) lv (.int r :: st) u) : X pc lv (a1 :: st) σ := os_callSi hX (as := [a1]) d (List.mem_of_getElem? (i := 107) rfl) oM_53 rfl rfl rfl hc hk k
theorem oc_RX1_198 (hX : oSem RX1 cc nL kd ret κ kc w0 X) {a1 : Value} {a2 : Value} {a3 : Value} {rb : Option Nat} {b : Nat} (d : decode cc pc = .ok (.invokevirtual 198, 3)) (hc : (st.map fun v => v.category).sum ≤ 16) (hb : oob σ rb 3 = some b) (hk : kc 54 (va_rf rb :: [a1, a2, a3]) σ (none, u)) (k : X (pc + 3) lv (st) u) : X pc lv (a3 :: a2 :: a1 :: va_rf rb :: st) σ := ow_cVv hX (as := [a1, a2, a3]) d (List.mem_of_getElem? (i := 108) rfl) oM_54 rfl rfl rfl hc hb ⟨by decide, rfl⟩ hk k
theorem oc_RX1_214 (hX : oSem RX1 cc nL kd ret κ kc w0 X) {rb : Option Nat} {b : Nat} (d : decode cc pc = .ok (.invokevirtual 214, 3)) (hc : (st.map fun v => v.category).sum ≤ 16) (hb : oob σ rb 3 = some b) (hk : kc 59 (va_rf rb :: []) σ (none, u)) (k : X (pc + 3) lv (st) u) : X pc lv (va_rf rb :: st) σ := ow_cVv hX (as := []) d (List.mem_of_getElem? (i := 109) rfl) oM_59 rfl rfl rfl hc hb ⟨by decide, rfl⟩ hk k
theorem oc_RX1_217 (hX : oSem RX1 cc nL kd ret κ kc w0 X) {r : Int32} {rb : Option Nat} {b : Nat} (d : decode cc pc = .ok (.invokevirtual 217, 3)) (hc : (st.map fun v => v.category).sum ≤ 16) (hb : oob σ rb 3 = some b) (hk : kc 60 (va_rf rb :: []) σ (some (.int r), u)) (k : X (pc + 3) lv (.int r :: st) u) : X pc lv (va_rf rb :: st) σ := ow_cVi hX (as := []) d (List.mem_of_getElem? (i := 110) rfl) oM_60 rfl rfl rfl hc hb ⟨by decide, rfl⟩ hk k
theorem oc_RX1_220 (hX : oSem RX1 cc nL kd ret κ kc w0 X) {rb : Option Nat} {b : Nat} (d : decode cc pc = .ok (.invokevirtual 220, 3)) (hc : (st.map fun v => v.category).sum ≤ 16) (hb : oob σ rb 8 = some b) (hk : kc 61 (va_rf rb :: []) σ (none, u)) (k : X (pc + 3) lv (st) u) : X pc lv (va_rf rb :: st) σ := ow_cVv hX (as := []) d (List.mem_of_getElem? (i := 111) rfl) oM_61 rfl rfl rfl hc hb ⟨by decide, rfl⟩ hk k
theorem oc_RX1_223 (hX : oSem RX1 cc nL kd ret κ kc w0 X) {rb : Option Nat} {b : Nat} (d : decode cc pc = .ok (.invokevirtual 223, 3)) (hc : (st.map fun v => v.category).sum ≤ 16) (hb : oob σ rb 8 = some b) (hk : kc 62 (va_rf rb :: []) σ (none, u)) (k : X (pc + 3) lv (st) u) : X pc lv (va_rf rb :: st) σ := ow_cVv hX (as := []) d (List.mem_of_getElem? (i := 112) rfl) oM_62 rfl rfl rfl hc hb ⟨by decide, rfl⟩ hk k
theorem oc_RX10_37 (hX : oSem RX10 cc nL kd ret κ kc w0 X) {a1 : Value} {r : Int32} {rb : Option Nat} {b : Nat} (d : decode cc pc = .ok (.invokevirtual 37, 3)) (hc : (st.map fun v => v.category).sum ≤ 16) (hb : oob σ rb 12 = some b) (hk : kc 146 (va_rf rb :: [a1]) σ (some (.int r), u)) (k : X (pc + 3) lv (.int r :: st) u) : X pc lv (a1 :: va_rf rb :: st) σ := ow_cVi hX (as := [a1]) d (List.mem_of_getElem? (i := 113) rfl) oM_146 rfl rfl rfl hc hb ⟨by decide, rfl⟩ hk k
theorem oc_RX10_50 (hX : oSem RX10 cc nL kd ret κ kc w0 X) {r : Int32} {rb : Option Nat} {b : Nat} (d : decode cc pc = .ok (.invokevirtual 50, 3)) (hc : (st.map fun v => v.category).sum ≤ 16) (hb : oob σ rb 1 = some b) (hk : kc 236 (va_rf rb :: []) σ (some (.int r), u)) (k : X (pc + 3) lv (.int r :: st) u) : X pc lv (va_rf rb :: st) σ := ow_cVi hX (as := []) d (List.mem_of_getElem? (i := 114) rfl) oM_236 rfl rfl rfl hc hb ⟨by decide, rfl⟩ hk k
theorem oc_RX10_56 (hX : oSem RX10 cc nL kd ret κ kc w0 X) {a1 : Value} {r : Option Nat} {rb : Option Nat} {b : Nat} (d : decode cc pc = .ok (.invokevirtual 56, 3)) (hc : (st.map fun v => v.category).sum ≤ 16) (hb : oob σ rb 1 = some b) (hk : kc 234 (va_rf rb :: [a1]) σ (some (va_rf r), u)) (k : X (pc + 3) lv (va_rf r :: st) u) : X pc lv (a1 :: va_rf rb :: st) σ := ow_cVq hX (as := [a1]) d (List.mem_of_getElem? (i := 115) rfl) oM_234 rfl rfl rfl hc hb ⟨by decide, rfl⟩ hk k
theorem oc_RX10_65 (hX : oSem RX10 cc nL kd ret κ kc w0 X) {a1 : Value} {r : Int32} (d : decode cc pc = .ok (.invokestatic 65, 3)) (hc : (st.map fun v => v.category).sum ≤ 16) (hk : kc 148 [a1] σ (some (.int r), u)) (k : X (pc + 3) lv (.int r :: st) u) : X pc lv (a1 :: st) σ := os_callSi hX (as := [a1]) d (List.mem_of_getElem? (i := 116) rfl) oM_148 rfl rfl rfl hc hk k
theorem oc_RX10_75 (hX : oSem RX10 cc nL kd ret κ kc w0 X) {a1 : Value} {r : Int32} {rb : Option Nat} {b : Nat} (d : decode cc pc = .ok (.invokevirtual 75, 3)) (hc : (st.map fun v => v.category).sum ≤ 16) (hb : oob σ rb 12 = some b) (hk : kc 156 (va_rf rb :: [a1]) σ (some (.int r), u)) (k : X (pc + 3) lv (.int r :: st) u) : X pc lv (a1 :: va_rf rb :: st) σ := ow_cVi hX (as := [a1]) d (List.mem_of_getElem? (i := 117) rfl) oM_156 rfl rfl rfl hc hb ⟨by decide, rfl⟩ hk k
theorem oc_RX10_79 (hX : oSem RX10 cc nL kd ret κ kc w0 X) {a1 : Value} {r : Int32} {rb : Option Nat} {b : Nat} (d : decode cc pc = .ok (.invokevirtual 79, 3)) (hc : (st.map fun v => v.category).sum ≤ 16) (hb : oob σ rb 12 = some b) (hk : kc 22 (va_rf rb :: [a1]) σ (some (.int r), u)) (k : X (pc + 3) lv (.int r :: st) u) : X pc lv (a1 :: va_rf rb :: st) σ := ow_cVi hX (as := [a1]) d (List.mem_of_getElem? (i := 118) rfl) oM_22 rfl rfl rfl hc hb ⟨by decide, rfl⟩ hk k
theorem oc_RX10_82 (hX : oSem RX10 cc nL kd ret κ kc w0 X) {a1 : Value} {rb : Option Nat} {b : Nat} (d : decode cc pc = .ok (.invokevirtual 82, 3)) (hc : (st.map fun v => v.category).sum ≤ 16) (hb : oob σ rb 12 = some b) (hk : kc 161 (va_rf rb :: [a1]) σ (none, u)) (k : X (pc + 3) lv (st) u) : X pc lv (a1 :: va_rf rb :: st) σ := ow_cVv hX (as := [a1]) d (List.mem_of_getElem? (i := 119) rfl) oM_161 rfl rfl rfl hc hb ⟨by decide, rfl⟩ hk k
theorem oc_RX10_89 (hX : oSem RX10 cc nL kd ret κ kc w0 X) {a1 : Value} {r : Int32} {rb : Option Nat} {b : Nat} (d : decode cc pc = .ok (.invokevirtual 89, 3)) (hc : (st.map fun v => v.category).sum ≤ 16) (hb : oob σ rb 12 = some b) (hk : kc 21 (va_rf rb :: [a1]) σ (some (.int r), u)) (k : X (pc + 3) lv (.int r :: st) u) : X pc lv (a1 :: va_rf rb :: st) σ := ow_cVi hX (as := [a1]) d (List.mem_of_getElem? (i := 120) rfl) oM_21 rfl rfl rfl hc hb ⟨by decide, rfl⟩ hk k
theorem oc_RX10_91 (hX : oSem RX10 cc nL kd ret κ kc w0 X) {a1 : Value} {a2 : Value} {r : Int32} {rb : Option Nat} {b : Nat} (d : decode cc pc = .ok (.invokevirtual 91, 3)) (hc : (st.map fun v => v.category).sum ≤ 16) (hb : oob σ rb 12 = some b) (hk : kc 150 (va_rf rb :: [a1, a2]) σ (some (.int r), u)) (k : X (pc + 3) lv (.int r :: st) u) : X pc lv (a2 :: a1 :: va_rf rb :: st) σ := ow_cVi hX (as := [a1, a2]) d (List.mem_of_getElem? (i := 121) rfl) oM_150 rfl rfl rfl hc hb ⟨by decide, rfl⟩ hk k
theorem oc_RX10_95 (hX : oSem RX10 cc nL kd ret κ kc w0 X) {a1 : Value} {r : Int32} {rb : Option Nat} {b : Nat} (d : decode cc pc = .ok (.invokevirtual 95, 3)) (hc : (st.map fun v => v.category).sum ≤ 16) (hb : oob σ rb 12 = some b) (hk : kc 151 (va_rf rb :: [a1]) σ (some (.int r), u)) (k : X (pc + 3) lv (.int r :: st) u) : X pc lv (a1 :: va_rf rb :: st) σ := ow_cVi hX (as := [a1]) d (List.mem_of_getElem? (i := 122) rfl) oM_151 rfl rfl rfl hc hb ⟨by decide, rfl⟩ hk k
theorem oc_RX10_100 (hX : oSem RX10 cc nL kd ret κ kc w0 X) {a1 : Value} {a2 : Value} (d : decode cc pc = .ok (.invokestatic 100, 3)) (hc : (st.map fun v => v.category).sum ≤ 16) (hk : kc 242 [a1, a2] σ (none, u)) (k : X (pc + 3) lv (st) u) : X pc lv (a2 :: a1 :: st) σ := os_callSv hX (as := [a1, a2]) d (List.mem_of_getElem? (i := 123) rfl) oM_242 rfl rfl rfl hc hk k
theorem oc_RX10_121 (hX : oSem RX10 cc nL kd ret κ kc w0 X) {a1 : Value} {rb : Option Nat} {b : Nat} (d : decode cc pc = .ok (.invokevirtual 121, 3)) (hc : (st.map fun v => v.category).sum ≤ 16) (hb : oob σ rb 12 = some b) (hk : kc 159 (va_rf rb :: [a1]) σ (none, u)) (k : X (pc + 3) lv (st) u) : X pc lv (a1 :: va_rf rb :: st) σ := ow_cVv hX (as := [a1]) d (List.mem_of_getElem? (i := 124) rfl) oM_159 rfl rfl rfl hc hb ⟨by decide, rfl⟩ hk k
theorem oc_RX10_127 (hX : oSem RX10 cc nL kd ret κ kc w0 X) {a1 : Value} {a2 : Value} {r : Int32} {rb : Option Nat} {b : Nat} (d : decode cc pc = .ok (.invokevirtual 127, 3)) (hc : (st.map fun v => v.category).sum ≤ 16) (hb : oob σ rb 12 = some b) (hk : kc 149 (va_rf rb :: [a1, a2]) σ (some (.int r), u)) (k : X (pc + 3) lv (.int r :: st) u) : X pc lv (a2 :: a1 :: va_rf rb :: st) σ := ow_cVi hX (as := [a1, a2]) d (List.mem_of_getElem? (i := 125) rfl) oM_149 rfl rfl rfl hc hb ⟨by decide, rfl⟩ hk k
theorem oc_RX10_134 (hX : oSem RX10 cc nL kd ret κ kc w0 X) {a1 : Value} {rb : Option Nat} {b : Nat} (d : decode cc pc = .ok (.invokevirtual 134, 3)) (hc : (st.map fun v => v.category).sum ≤ 16) (hb : oob σ rb 12 = some b) (hk : kc 154 (va_rf rb :: [a1]) σ (none, u)) (k : X (pc + 3) lv (st) u) : X pc lv (a1 :: va_rf rb :: st) σ := ow_cVv hX (as := [a1]) d (List.mem_of_getElem? (i := 126) rfl) oM_154 rfl rfl rfl hc hb ⟨by decide, rfl⟩ hk k
theorem oc_RX10_140 (hX : oSem RX10 cc nL kd ret κ kc w0 X) {a1 : Value} {a2 : Value} {a3 : Value} {rb : Option Nat} {b : Nat} (d : decode cc pc = .ok (.invokevirtual 140, 3)) (hc : (st.map fun v => v.category).sum ≤ 16) (hb : oob σ rb 12 = some b) (hk : kc 152 (va_rf rb :: [a1, a2, a3]) σ (none, u)) (k : X (pc + 3) lv (st) u) : X pc lv (a3 :: a2 :: a1 :: va_rf rb :: st) σ := ow_cVv hX (as := [a1, a2, a3]) d (List.mem_of_getElem? (i := 127) rfl) oM_152 rfl rfl rfl hc hb ⟨by decide, rfl⟩ hk k
theorem oc_RX10_144 (hX : oSem RX10 cc nL kd ret κ kc w0 X) {a1 : Value} {rb : Option Nat} {b : Nat} (d : decode cc pc = .ok (.invokevirtual 144, 3)) (hc : (st.map fun v => v.category).sum ≤ 16) (hb : oob σ rb 12 = some b) (hk : kc 158 (va_rf rb :: [a1]) σ (none, u)) (k : X (pc + 3) lv (st) u) : X pc lv (a1 :: va_rf rb :: st) σ := ow_cVv hX (as := [a1]) d (List.mem_of_getElem? (i := 128) rfl) oM_158 rfl rfl rfl hc hb ⟨by decide, rfl⟩ hk k
theorem oc_RX10_156 (hX : oSem RX10 cc nL kd ret κ kc w0 X) {a1 : Value} {rb : Option Nat} {b : Nat} (d : decode cc pc = .ok (.invokevirtual 156, 3)) (hc : (st.map fun v => v.category).sum ≤ 16) (hb : oob σ rb 12 = some b) (hk : kc 153 (va_rf rb :: [a1]) σ (none, u)) (k : X (pc + 3) lv (st) u) : X pc lv (a1 :: va_rf rb :: st) σ := ow_cVv hX (as := [a1]) d (List.mem_of_getElem? (i := 129) rfl) oM_153 rfl rfl rfl hc hb ⟨by decide, rfl⟩ hk k
theorem oc_RX10_162 (hX : oSem RX10 cc nL kd ret κ kc w0 X) {a1 : Value} {rb : Option Nat} {b : Nat} (d : decode cc pc = .ok (.invokevirtual 162, 3)) (hc : (st.map fun v => v.category).sum ≤ 16) (hb : oob σ rb 12 = some b) (hk : kc 157 (va_rf rb :: [a1]) σ (none, u)) (k : X (pc + 3) lv (st) u) : X pc lv (a1 :: va_rf rb :: st) σ := ow_cVv hX (as := [a1]) d (List.mem_of_getElem? (i := 130) rfl) oM_157 rfl rfl rfl hc hb ⟨by decide, rfl⟩ hk k
theorem oc_RX10_165 (hX : oSem RX10 cc nL kd ret κ kc w0 X) {a1 : Value} {r : Int32} {rb : Option Nat} {b : Nat} (d : decode cc pc = .ok (.invokevirtual 165, 3)) (hc : (st.map fun v => v.category).sum ≤ 16) (hb : oob σ rb 12 = some b) (hk : kc 155 (va_rf rb :: [a1]) σ (some (.int r), u)) (k : X (pc + 3) lv (.int r :: st) u) : X pc lv (a1 :: va_rf rb :: st) σ := ow_cVi hX (as := [a1]) d (List.mem_of_getElem? (i := 131) rfl) oM_155 rfl rfl rfl hc hb ⟨by decide, rfl⟩ hk k
theorem oc_RX10_180 (hX : oSem RX10 cc nL kd ret κ kc w0 X) {a1 : Value} {r : Int32} {rb : Option Nat} {b : Nat} (d : decode cc pc = .ok (.invokevirtual 180, 3)) (hc : (st.map fun v => v.category).sum ≤ 16) (hb : oob σ rb 12 = some b) (hk : kc 160 (va_rf rb :: [a1]) σ (some (.int r), u)) (k : X (pc + 3) lv (.int r :: st) u) : X pc lv (a1 :: va_rf rb :: st) σ := ow_cVi hX (as := [a1]) d (List.mem_of_getElem? (i := 132) rfl) oM_160 rfl rfl rfl hc hb ⟨by decide, rfl⟩ hk k
theorem oc_RX11_19 (hX : oSem RX11 cc nL kd ret κ kc w0 X) {r : Int32} {rb : Option Nat} {b : Nat} (d : decode cc pc = .ok (.invokevirtual 19, 3)) (hc : (st.map fun v => v.category).sum ≤ 16) (hb : oSt' κ σ rb = some b) (hk : kc 207 (va_rf rb :: []) σ (some (.int r), u)) (k : X (pc + 3) lv (.int r :: st) u) : X pc lv (va_rf rb :: st) σ := ow_cKi hX (as := []) d (List.mem_of_getElem? (i := 133) rfl) oM_207 rfl rfl rfl hc hb rfl hk k
theorem oc_RX11_35 (hX : oSem RX11 cc nL kd ret κ kc w0 X) {rb : Option Nat} {b : Nat} (d : decode cc pc = .ok (.invokevirtual 35, 3)) (hc : (st.map fun v => v.category).sum ≤ 16) (hb : oob σ rb 13 = some b) (hk : kc 171 (va_rf rb :: []) σ (none, u)) (k : X (pc + 3) lv (st) u) : X pc lv (va_rf rb :: st) σ := ow_cVv hX (as := []) d (List.mem_of_getElem? (i := 134) rfl) oM_171 rfl rfl rfl hc hb ⟨by decide, rfl⟩ hk k
theorem oc_RX11_38 (hX : oSem RX11 cc nL kd ret κ kc w0 X) {a1 : Value} {r : Int32} {rb : Option Nat} {b : Nat} (d : decode cc pc = .ok (.invokevirtual 38, 3)) (hc : (st.map fun v => v.category).sum ≤ 16) (hb : oSt' κ σ rb = some b) (hk : kc 201 (va_rf rb :: [a1]) σ (some (.int r), u)) (k : X (pc + 3) lv (.int r :: st) u) : X pc lv (a1 :: va_rf rb :: st) σ := ow_cKi hX (as := [a1]) d (List.mem_of_getElem? (i := 135) rfl) oM_201 rfl rfl rfl hc hb rfl hk k
theorem oc_RX11_42 (hX : oSem RX11 cc nL kd ret κ kc w0 X) {a1 : Value} {r : Int32} {rb : Option Nat} {b : Nat} (d : decode cc pc = .ok (.invokevirtual 42, 3)) (hc : (st.map fun v => v.category).sum ≤ 16) (hb : oob σ rb 13 = some b) (hk : kc 167 (va_rf rb :: [a1]) σ (some (.int r), u)) (k : X (pc + 3) lv (.int r :: st) u) : X pc lv (a1 :: va_rf rb :: st) σ := ow_cVi hX (as := [a1]) d (List.mem_of_getElem? (i := 136) rfl) oM_167 rfl rfl rfl hc hb ⟨by decide, rfl⟩ hk k
theorem oc_RX11_46 (hX : oSem RX11 cc nL kd ret κ kc w0 X) {a1 : Value} {a2 : Value} {rb : Option Nat} {b : Nat} (d : decode cc pc = .ok (.invokevirtual 46, 3)) (hc : (st.map fun v => v.category).sum ≤ 16) (hb : oob σ rb 13 = some b) (hk : kc 170 (va_rf rb :: [a1, a2]) σ (none, u)) (k : X (pc + 3) lv (st) u) : X pc lv (a2 :: a1 :: va_rf rb :: st) σ := ow_cVv hX (as := [a1, a2]) d (List.mem_of_getElem? (i := 137) rfl) oM_170 rfl rfl rfl hc hb ⟨by decide, rfl⟩ hk k
theorem oc_RX11_53 (hX : oSem RX11 cc nL kd ret κ kc w0 X) {a1 : Value} {r : Int32} (d : decode cc pc = .ok (.invokestatic 53, 3)) (hc : (st.map fun v => v.category).sum ≤ 16) (hk : kc 163 [a1] σ (some (.int r), u)) (k : X (pc + 3) lv (.int r :: st) u) : X pc lv (a1 :: st) σ := os_callSi hX (as := [a1]) d (List.mem_of_getElem? (i := 138) rfl) oM_163 rfl rfl rfl hc hk k
theorem oc_RX11_57 (hX : oSem RX11 cc nL kd ret κ kc w0 X) {a1 : Value} {a2 : Value} {r : Int32} {rb : Option Nat} {b : Nat} (d : decode cc pc = .ok (.invokevirtual 57, 3)) (hc : (st.map fun v => v.category).sum ≤ 16) (hb : oob σ rb 13 = some b) (hk : kc 169 (va_rf rb :: [a1, a2]) σ (some (.int r), u)) (k : X (pc + 3) lv (.int r :: st) u) : X pc lv (a2 :: a1 :: va_rf rb :: st) σ := ow_cVi hX (as := [a1, a2]) d (List.mem_of_getElem? (i := 139) rfl) oM_169 rfl rfl rfl hc hb ⟨by decide, rfl⟩ hk k
theorem oc_RX11_61 (hX : oSem RX11 cc nL kd ret κ kc w0 X) {a1 : Value} {r : Int32} (d : decode cc pc = .ok (.invokestatic 61, 3)) (hc : (st.map fun v => v.category).sum ≤ 16) (hk : kc 164 [a1] σ (some (.int r), u)) (k : X (pc + 3) lv (.int r :: st) u) : X pc lv (a1 :: st) σ := os_callSi hX (as := [a1]) d (List.mem_of_getElem? (i := 140) rfl) oM_164 rfl rfl rfl hc hk k
theorem oc_RX11_64 (hX : oSem RX11 cc nL kd ret κ kc w0 X) {a1 : Value} {r : Int32} {rb : Option Nat} {b : Nat} (d : decode cc pc = .ok (.invokevirtual 64, 3)) (hc : (st.map fun v => v.category).sum ≤ 16) (hb : oob σ rb 13 = some b) (hk : kc 166 (va_rf rb :: [a1]) σ (some (.int r), u)) (k : X (pc + 3) lv (.int r :: st) u) : X pc lv (a1 :: va_rf rb :: st) σ := ow_cVi hX (as := [a1]) d (List.mem_of_getElem? (i := 141) rfl) oM_166 rfl rfl rfl hc hb ⟨by decide, rfl⟩ hk k
theorem oc_RX11_67 (hX : oSem RX11 cc nL kd ret κ kc w0 X) {a1 : Value} {a2 : Value} {r : Int32} (d : decode cc pc = .ok (.invokestatic 67, 3)) (hc : (st.map fun v => v.category).sum ≤ 16) (hk : kc 165 [a1, a2] σ (some (.int r), u)) (k : X (pc + 3) lv (.int r :: st) u) : X pc lv (a2 :: a1 :: st) σ := os_callSi hX (as := [a1, a2]) d (List.mem_of_getElem? (i := 142) rfl) oM_165 rfl rfl rfl hc hk k
theorem oc_RX11_73 (hX : oSem RX11 cc nL kd ret κ kc w0 X) {a1 : Value} {r : Int32} {rb : Option Nat} {b : Nat} (d : decode cc pc = .ok (.invokevirtual 73, 3)) (hc : (st.map fun v => v.category).sum ≤ 16) (hb : oSt' κ σ rb = some b) (hk : kc 219 (va_rf rb :: [a1]) σ (some (.int r), u)) (k : X (pc + 3) lv (.int r :: st) u) : X pc lv (a1 :: va_rf rb :: st) σ := ow_cKi hX (as := [a1]) d (List.mem_of_getElem? (i := 143) rfl) oM_219 rfl rfl rfl hc hb rfl hk k
theorem oc_RX11_78 (hX : oSem RX11 cc nL kd ret κ kc w0 X) {a1 : Value} {a2 : Value} {a3 : Value} {r : Int32} {rb : Option Nat} {b : Nat} (d : decode cc pc = .ok (.invokevirtual 78, 3)) (hc : (st.map fun v => v.category).sum ≤ 16) (hb : oob σ rb 13 = some b) (hk : kc 168 (va_rf rb :: [a1, a2, a3]) σ (some (.int r), u)) (k : X (pc + 3) lv (.int r :: st) u) : X pc lv (a3 :: a2 :: a1 :: va_rf rb :: st) σ := ow_cVi hX (as := [a1, a2, a3]) d (List.mem_of_getElem? (i := 144) rfl) oM_168 rfl rfl rfl hc hb ⟨by decide, rfl⟩ hk k
theorem oc_RX11_82 (hX : oSem RX11 cc nL kd ret κ kc w0 X) {a1 : Value} {a2 : Value} {r : Option Nat} {rb : Option Nat} {b : Nat} (d : decode cc pc = .ok (.invokevirtual 82, 3)) (hc : (st.map fun v => v.category).sum ≤ 16) (hb : oob σ rb 0 = some b) (hk : kc 209 (va_rf rb :: [a1, a2]) σ (some (va_rf r), u)) (k : X (pc + 3) lv (va_rf r :: st) u) : X pc lv (a2 :: a1 :: va_rf rb :: st) σ := ow_cVq hX (as := [a1, a2]) d (List.mem_of_getElem? (i := 145) rfl) oM_209 rfl rfl rfl hc hb ⟨by decide, rfl⟩ hk k
theorem oc_RX12_25 (hX : oSem RX12 cc nL kd ret κ kc w0 X) {rb : Option Nat} {b : Nat} (d : decode cc pc = .ok (.invokespecial 25, 3)) (hc : (st.map fun v => v.category).sum ≤ 8) (hb : rb = some b) (hk : kc 224 (va_rf rb :: []) σ (none, u)) (k : X (pc + 3) lv st u) : X pc lv (va_rf rb :: st) σ := ow_cI hX (as := []) d (List.mem_of_getElem? (i := 146) rfl) oM_224 rfl rfl rfl hc hb hk k
theorem oc_RX12_47 (hX : oSem RX12 cc nL kd ret κ kc w0 X) {a1 : Value} {rb : Option Nat} {b : Nat} (d : decode cc pc = .ok (.invokevirtual 47, 3)) (hc : (st.map fun v => v.category).sum ≤ 16) (hb : oob σ rb 14 = some b) (hk : kc 174 (va_rf rb :: [a1]) σ (none, u)) (k : X (pc + 3) lv (st) u) : X pc lv (a1 :: va_rf rb :: st) σ := ow_cVv hX (as := [a1]) d (List.mem_of_getElem? (i := 147) rfl) oM_174 rfl rfl rfl hc hb ⟨by decide, rfl⟩ hk k
theorem oc_RX12_63 (hX : oSem RX12 cc nL kd ret κ kc w0 X) {rb : Option Nat} {b : Nat} (d : decode cc pc = .ok (.invokevirtual 63, 3)) (hc : (st.map fun v => v.category).sum ≤ 16) (hb : oob σ rb 5 = some b) (hk : kc 72 (va_rf rb :: []) σ (none, u)) (k : X (pc + 3) lv (st) u) : X pc lv (va_rf rb :: st) σ := ow_cVv hX (as := []) d (List.mem_of_getElem? (i := 148) rfl) oM_72 rfl rfl rfl hc hb ⟨by decide, rfl⟩ hk k
theorem oc_RX12_70 (hX : oSem RX12 cc nL kd ret κ kc w0 X) {a1 : Value} {rb : Option Nat} {b : Nat} (d : decode cc pc = .ok (.invokespecial 70, 3)) (hc : (st.map fun v => v.category).sum ≤ 8) (hb : rb = some b) (hk : kc 196 (va_rf rb :: [a1]) σ (none, u)) (k : X (pc + 3) lv st u) : X pc lv (a1 :: va_rf rb :: st) σ := ow_cI hX (as := [a1]) d (List.mem_of_getElem? (i := 149) rfl) oM_196 rfl rfl rfl hc hb hk k
theorem oc_RX12_73 (hX : oSem RX12 cc nL kd ret κ kc w0 X) {a1 : Value} {rb : Option Nat} {b : Nat} (d : decode cc pc = .ok (.invokespecial 73, 3)) (hc : (st.map fun v => v.category).sum ≤ 8) (hb : rb = some b) (hk : kc 172 (va_rf rb :: [a1]) σ (none, u)) (k : X (pc + 3) lv st u) : X pc lv (a1 :: va_rf rb :: st) σ := ow_cI hX (as := [a1]) d (List.mem_of_getElem? (i := 150) rfl) oM_172 rfl rfl rfl hc hb hk k
theorem oc_RX12_79 (hX : oSem RX12 cc nL kd ret κ kc w0 X) {a1 : Value} {a2 : Value} {r : Int32} {rb : Option Nat} {b : Nat} (d : decode cc pc = .ok (.invokevirtual 79, 3)) (hc : (st.map fun v => v.category).sum ≤ 16) (hb : oob σ rb 14 = some b) (hk : kc 177 (va_rf rb :: [a1, a2]) σ (some (.int r), u)) (k : X (pc + 3) lv (.int r :: st) u) : X pc lv (a2 :: a1 :: va_rf rb :: st) σ := ow_cVi hX (as := [a1, a2]) d (List.mem_of_getElem? (i := 151) rfl) oM_177 rfl rfl rfl hc hb ⟨by decide, rfl⟩ hk k
theorem oc_RX12_85 (hX : oSem RX12 cc nL kd ret κ kc w0 X) {a1 : Value} {rb : Option Nat} {b : Nat} (d : decode cc pc = .ok (.invokespecial 85, 3)) (hc : (st.map fun v => v.category).sum ≤ 8) (hb : rb = some b) (hk : kc 103 (va_rf rb :: [a1]) σ (none, u)) (k : X (pc + 3) lv st u) : X pc lv (a1 :: va_rf rb :: st) σ := ow_cI hX (as := [a1]) d (List.mem_of_getElem? (i := 152) rfl) oM_103 rfl rfl rfl hc hb hk k
theorem oc_RX12_88 (hX : oSem RX12 cc nL kd ret κ kc w0 X) {rb : Option Nat} {b : Nat} (d : decode cc pc = .ok (.invokevirtual 88, 3)) (hc : (st.map fun v => v.category).sum ≤ 16) (hb : oob σ rb 9 = some b) (hk : kc 145 (va_rf rb :: []) σ (none, u)) (k : X (pc + 3) lv (st) u) : X pc lv (va_rf rb :: st) σ := ow_cVv hX (as := []) d (List.mem_of_getElem? (i := 153) rfl) oM_145 rfl rfl rfl hc hb ⟨by decide, rfl⟩ hk k
theorem oc_RX12_101 (hX : oSem RX12 cc nL kd ret κ kc w0 X) {a1 : Value} {rb : Option Nat} {b : Nat} (d : decode cc pc = .ok (.invokespecial 101, 3)) (hc : (st.map fun v => v.category).sum ≤ 8) (hb : rb = some b) (hk : kc 147 (va_rf rb :: [a1]) σ (none, u)) (k : X (pc + 3) lv st u) : X pc lv (a1 :: va_rf rb :: st) σ := ow_cI hX (as := [a1]) d (List.mem_of_getElem? (i := 154) rfl) oM_147 rfl rfl rfl hc hb hk k
theorem oc_RX12_103 (hX : oSem RX12 cc nL kd ret κ kc w0 X) {a1 : Value} {rb : Option Nat} {b : Nat} (d : decode cc pc = .ok (.invokevirtual 103, 3)) (hc : (st.map fun v => v.category).sum ≤ 16) (hb : oob σ rb 12 = some b) (hk : kc 162 (va_rf rb :: [a1]) σ (none, u)) (k : X (pc + 3) lv (st) u) : X pc lv (a1 :: va_rf rb :: st) σ := ow_cVv hX (as := [a1]) d (List.mem_of_getElem? (i := 155) rfl) oM_162 rfl rfl rfl hc hb ⟨by decide, rfl⟩ hk k
theorem oc_RX12_111 (hX : oSem RX12 cc nL kd ret κ kc w0 X) {a1 : Value} {rb : Option Nat} {b : Nat} (d : decode cc pc = .ok (.invokevirtual 111, 3)) (hc : (st.map fun v => v.category).sum ≤ 16) (hb : oob σ rb 9 = some b) (hk : kc 122 (va_rf rb :: [a1]) σ (none, u)) (k : X (pc + 3) lv (st) u) : X pc lv (a1 :: va_rf rb :: st) σ := ow_cVv hX (as := [a1]) d (List.mem_of_getElem? (i := 156) rfl) oM_122 rfl rfl rfl hc hb ⟨by decide, rfl⟩ hk k
theorem oc_RX12_126 (hX : oSem RX12 cc nL kd ret κ kc w0 X) {a1 : Value} {r : Int32} {rb : Option Nat} {b : Nat} (d : decode cc pc = .ok (.invokevirtual 126, 3)) (hc : (st.map fun v => v.category).sum ≤ 16) (hb : oob σ rb 12 = some b) (hk : kc 22 (va_rf rb :: [a1]) σ (some (.int r), u)) (k : X (pc + 3) lv (.int r :: st) u) : X pc lv (a1 :: va_rf rb :: st) σ := ow_cVi hX (as := [a1]) d (List.mem_of_getElem? (i := 157) rfl) oM_22 rfl rfl rfl hc hb ⟨by decide, rfl⟩ hk k
theorem oc_RX12_130 (hX : oSem RX12 cc nL kd ret κ kc w0 X) {a1 : Value} {a2 : Value} {rb : Option Nat} {b : Nat} (d : decode cc pc = .ok (.invokevirtual 130, 3)) (hc : (st.map fun v => v.category).sum ≤ 16) (hb : oob σ rb 5 = some b) (hk : kc 73 (va_rf rb :: [a1, a2]) σ (none, u)) (k : X (pc + 3) lv (st) u) : X pc lv (a2 :: a1 :: va_rf rb :: st) σ := ow_cVv hX (as := [a1, a2]) d (List.mem_of_getElem? (i := 158) rfl) oM_73 rfl rfl rfl hc hb ⟨by decide, rfl⟩ hk k
theorem oc_RX12_136 (hX : oSem RX12 cc nL kd ret κ kc w0 X) {a1 : Value} {a2 : Value} {a3 : Value} {rb : Option Nat} {b : Nat} (d : decode cc pc = .ok (.invokespecial 136, 3)) (hc : (st.map fun v => v.category).sum ≤ 8) (hb : rb = some b) (hk : kc 0 (va_rf rb :: [a1, a2, a3]) σ (none, u)) (k : X (pc + 3) lv st u) : X pc lv (a3 :: a2 :: a1 :: va_rf rb :: st) σ := ow_cI hX (as := [a1, a2, a3]) d (List.mem_of_getElem? (i := 159) rfl) oM_0 rfl rfl rfl hc hb hk k
theorem oc_RX12_139 (hX : oSem RX12 cc nL kd ret κ kc w0 X) {rb : Option Nat} {b : Nat} (d : decode cc pc = .ok (.invokevirtual 139, 3)) (hc : (st.map fun v => v.category).sum ≤ 16) (hb : oob σ rb 2 = some b) (hk : kc 37 (va_rf rb :: []) σ (none, u)) (k : X (pc + 3) lv (st) u) : X pc lv (va_rf rb :: st) σ := ow_cVv hX (as := []) d (List.mem_of_getElem? (i := 160) rfl) oM_37 rfl rfl rfl hc hb ⟨by decide, rfl⟩ hk k
theorem oc_RX12_142 (hX : oSem RX12 cc nL kd ret κ kc w0 X) {rb : Option Nat} {b : Nat} (d : decode cc pc = .ok (.invokevirtual 142, 3)) (hc : (st.map fun v => v.category).sum ≤ 16) (hb : oob σ rb 2 = some b) (hk : kc 68 (va_rf rb :: []) σ (none, u)) (k : X (pc + 3) lv (st) u) : X pc lv (va_rf rb :: st) σ := ow_cVv hX (as := []) d (List.mem_of_getElem? (i := 161) rfl) oM_68 rfl rfl rfl hc hb ⟨by decide, rfl⟩ hk k
theorem oc_RX12_145 (hX : oSem RX12 cc nL kd ret κ kc w0 X) {rb : Option Nat} {b : Nat} (d : decode cc pc = .ok (.invokevirtual 145, 3)) (hc : (st.map fun v => v.category).sum ≤ 16) (hb : oob σ rb 2 = some b) (hk : kc 65 (va_rf rb :: []) σ (none, u)) (k : X (pc + 3) lv (st) u) : X pc lv (va_rf rb :: st) σ := ow_cVv hX (as := []) d (List.mem_of_getElem? (i := 162) rfl) oM_65 rfl rfl rfl hc hb ⟨by decide, rfl⟩ hk k
theorem oc_RX12_154 (hX : oSem RX12 cc nL kd ret κ kc w0 X) {r : Int32} {rb : Option Nat} {b : Nat} (d : decode cc pc = .ok (.invokevirtual 154, 3)) (hc : (st.map fun v => v.category).sum ≤ 16) (hb : oob σ rb 1 = some b) (hk : kc 236 (va_rf rb :: []) σ (some (.int r), u)) (k : X (pc + 3) lv (.int r :: st) u) : X pc lv (va_rf rb :: st) σ := ow_cVi hX (as := []) d (List.mem_of_getElem? (i := 163) rfl) oM_236 rfl rfl rfl hc hb ⟨by decide, rfl⟩ hk k
theorem oc_RX12_161 (hX : oSem RX12 cc nL kd ret κ kc w0 X) {rb : Option Nat} {b : Nat} (d : decode cc pc = .ok (.invokevirtual 161, 3)) (hc : (st.map fun v => v.category).sum ≤ 16) (hb : oob σ rb 1 = some b) (hk : kc 237 (va_rf rb :: []) σ (none, u)) (k : X (pc + 3) lv (st) u) : X pc lv (va_rf rb :: st) σ := ow_cVv hX (as := []) d (List.mem_of_getElem? (i := 164) rfl) oM_237 rfl rfl rfl hc hb ⟨by decide, rfl⟩ hk k
theorem oc_RX12_164 (hX : oSem RX12 cc nL kd ret κ kc w0 X) {a1 : Value} {r : Option Nat} {rb : Option Nat} {b : Nat} (d : decode cc pc = .ok (.invokevirtual 164, 3)) (hc : (st.map fun v => v.category).sum ≤ 16) (hb : oob σ rb 1 = some b) (hk : kc 234 (va_rf rb :: [a1]) σ (some (va_rf r), u)) (k : X (pc + 3) lv (va_rf r :: st) u) : X pc lv (a1 :: va_rf rb :: st) σ := ow_cVq hX (as := [a1]) d (List.mem_of_getElem? (i := 165) rfl) oM_234 rfl rfl rfl hc hb ⟨by decide, rfl⟩ hk k
theorem oc_RX12_174 (hX : oSem RX12 cc nL kd ret κ kc w0 X) {a1 : Value} {a2 : Value} {rb : Option Nat} {b : Nat} (d : decode cc pc = .ok (.invokevirtual 174, 3)) (hc : (st.map fun v => v.category).sum ≤ 16) (hb : oob σ rb 14 = some b) (hk : kc 188 (va_rf rb :: [a1, a2]) σ (none, u)) (k : X (pc + 3) lv (st) u) : X pc lv (a2 :: a1 :: va_rf rb :: st) σ := ow_cVv hX (as := [a1, a2]) d (List.mem_of_getElem? (i := 166) rfl) oM_188 rfl rfl rfl hc hb ⟨by decide, rfl⟩ hk k
theorem oc_RX12_186 (hX : oSem RX12 cc nL kd ret κ kc w0 X) {r : Option Nat} {rb : Option Nat} {b : Nat} (d : decode cc pc = .ok (.invokevirtual 186, 3)) (hc : (st.map fun v => v.category).sum ≤ 16) (hb : oob σ rb 4 = some b) (hk : kc 5 (va_rf rb :: []) σ (some (va_rf r), u)) (k : X (pc + 3) lv (va_rf r :: st) u) : X pc lv (va_rf rb :: st) σ := ow_cVq hX (as := []) d (List.mem_of_getElem? (i := 167) rfl) oM_5 rfl rfl rfl hc hb ⟨by decide, rfl⟩ hk k
theorem oc_RX12_197 (hX : oSem RX12 cc nL kd ret κ kc w0 X) {a1 : Value} {rb : Option Nat} {b : Nat} (d : decode cc pc = .ok (.invokevirtual 197, 3)) (hc : (st.map fun v => v.category).sum ≤ 16) (hb : oob σ rb 14 = some b) (hk : kc 184 (va_rf rb :: [a1]) σ (none, u)) (k : X (pc + 3) lv (st) u) : X pc lv (a1 :: va_rf rb :: st) σ := ow_cVv hX (as := [a1]) d (List.mem_of_getElem? (i := 168) rfl) oM_184 rfl rfl rfl hc hb ⟨by decide, rfl⟩ hk k
theorem oc_RX12_201 (hX : oSem RX12 cc nL kd ret κ kc w0 X) {a1 : Value} {rb : Option Nat} {b : Nat} (d : decode cc pc = .ok (.invokevirtual 201, 3)) (hc : (st.map fun v => v.category).sum ≤ 16) (hb : oob σ rb 14 = some b) (hk : kc 181 (va_rf rb :: [a1]) σ (none, u)) (k : X (pc + 3) lv (st) u) : X pc lv (a1 :: va_rf rb :: st) σ := ow_cVv hX (as := [a1]) d (List.mem_of_getElem? (i := 169) rfl) oM_181 rfl rfl rfl hc hb ⟨by decide, rfl⟩ hk k
theorem oc_RX12_205 (hX : oSem RX12 cc nL kd ret κ kc w0 X) {a1 : Value} {rb : Option Nat} {b : Nat} (d : decode cc pc = .ok (.invokevirtual 205, 3)) (hc : (st.map fun v => v.category).sum ≤ 16) (hb : oob σ rb 14 = some b) (hk : kc 187 (va_rf rb :: [a1]) σ (none, u)) (k : X (pc + 3) lv (st) u) : X pc lv (a1 :: va_rf rb :: st) σ := ow_cVv hX (as := [a1]) d (List.mem_of_getElem? (i := 170) rfl) oM_187 rfl rfl rfl hc hb ⟨by decide, rfl⟩ hk k
theorem oc_RX12_211 (hX : oSem RX12 cc nL kd ret κ kc w0 X) {a1 : Value} {rb : Option Nat} {b : Nat} (d : decode cc pc = .ok (.invokevirtual 211, 3)) (hc : (st.map fun v => v.category).sum ≤ 16) (hb : oob σ rb 14 = some b) (hk : kc 182 (va_rf rb :: [a1]) σ (none, u)) (k : X (pc + 3) lv (st) u) : X pc lv (a1 :: va_rf rb :: st) σ := ow_cVv hX (as := [a1]) d (List.mem_of_getElem? (i := 171) rfl) oM_182 rfl rfl rfl hc hb ⟨by decide, rfl⟩ hk k
theorem oc_RX12_213 (hX : oSem RX12 cc nL kd ret κ kc w0 X) {a1 : Value} {r : Option Nat} {rb : Option Nat} {b : Nat} (d : decode cc pc = .ok (.invokevirtual 213, 3)) (hc : (st.map fun v => v.category).sum ≤ 16) (hb : oob σ rb 4 = some b) (hk : kc 4 (va_rf rb :: [a1]) σ (some (va_rf r), u)) (k : X (pc + 3) lv (va_rf r :: st) u) : X pc lv (a1 :: va_rf rb :: st) σ := ow_cVq hX (as := [a1]) d (List.mem_of_getElem? (i := 172) rfl) oM_4 rfl rfl rfl hc hb ⟨by decide, rfl⟩ hk k
theorem oc_RX12_218 (hX : oSem RX12 cc nL kd ret κ kc w0 X) {a1 : Value} {rb : Option Nat} {b : Nat} (d : decode cc pc = .ok (.invokevirtual 218, 3)) (hc : (st.map fun v => v.category).sum ≤ 16) (hb : oob σ rb 4 = some b) (hk : kc 46 (va_rf rb :: [a1]) σ (none, u)) (k : X (pc + 3) lv (st) u) : X pc lv (a1 :: va_rf rb :: st) σ := ow_cVv hX (as := [a1]) d (List.mem_of_getElem? (i := 173) rfl) oM_46 rfl rfl rfl hc hb ⟨by decide, rfl⟩ hk k
theorem oc_RX12_228 (hX : oSem RX12 cc nL kd ret κ kc w0 X) {a1 : Value} {rb : Option Nat} {b : Nat} (d : decode cc pc = .ok (.invokevirtual 228, 3)) (hc : (st.map fun v => v.category).sum ≤ 16) (hb : oob σ rb 14 = some b) (hk : kc 185 (va_rf rb :: [a1]) σ (none, u)) (k : X (pc + 3) lv (st) u) : X pc lv (a1 :: va_rf rb :: st) σ := ow_cVv hX (as := [a1]) d (List.mem_of_getElem? (i := 174) rfl) oM_185 rfl rfl rfl hc hb ⟨by decide, rfl⟩ hk k
theorem oc_RX12_231 (hX : oSem RX12 cc nL kd ret κ kc w0 X) {a1 : Value} {rb : Option Nat} {b : Nat} (d : decode cc pc = .ok (.invokevirtual 231, 3)) (hc : (st.map fun v => v.category).sum ≤ 16) (hb : oob σ rb 14 = some b) (hk : kc 186 (va_rf rb :: [a1]) σ (none, u)) (k : X (pc + 3) lv (st) u) : X pc lv (a1 :: va_rf rb :: st) σ := ow_cVv hX (as := [a1]) d (List.mem_of_getElem? (i := 175) rfl) oM_186 rfl rfl rfl hc hb ⟨by decide, rfl⟩ hk k
theorem oc_RX12_253 (hX : oSem RX12 cc nL kd ret κ kc w0 X) {a1 : Value} {rb : Option Nat} {b : Nat} (d : decode cc pc = .ok (.invokevirtual 253, 3)) (hc : (st.map fun v => v.category).sum ≤ 16) (hb : oob σ rb 14 = some b) (hk : kc 183 (va_rf rb :: [a1]) σ (none, u)) (k : X (pc + 3) lv (st) u) : X pc lv (a1 :: va_rf rb :: st) σ := ow_cVv hX (as := [a1]) d (List.mem_of_getElem? (i := 176) rfl) oM_183 rfl rfl rfl hc hb ⟨by decide, rfl⟩ hk k
theorem oc_RX12_273 (hX : oSem RX12 cc nL kd ret κ kc w0 X) {a1 : Value} {r : Int32} {rb : Option Nat} {b : Nat} (d : decode cc pc = .ok (.invokevirtual 273, 3)) (hc : (st.map fun v => v.category).sum ≤ 16) (hb : oob σ rb 1 = some b) (hk : kc 227 (va_rf rb :: [a1]) σ (some (.int r), u)) (k : X (pc + 3) lv (.int r :: st) u) : X pc lv (a1 :: va_rf rb :: st) σ := ow_cVi hX (as := [a1]) d (List.mem_of_getElem? (i := 177) rfl) oM_227 rfl rfl rfl hc hb ⟨by decide, rfl⟩ hk k
theorem oc_RX12_287 (hX : oSem RX12 cc nL kd ret κ kc w0 X) {r : Int32} {rb : Option Nat} {b : Nat} (d : decode cc pc = .ok (.invokevirtual 287, 3)) (hc : (st.map fun v => v.category).sum ≤ 16) (hb : oSt' κ σ rb = some b) (hk : kc 207 (va_rf rb :: []) σ (some (.int r), u)) (k : X (pc + 3) lv (.int r :: st) u) : X pc lv (va_rf rb :: st) σ := ow_cKi hX (as := []) d (List.mem_of_getElem? (i := 178) rfl) oM_207 rfl rfl rfl hc hb rfl hk k
theorem oc_RX12_290 (hX : oSem RX12 cc nL kd ret κ kc w0 X) {a1 : Value} {r : Int32} {rb : Option Nat} {b : Nat} (d : decode cc pc = .ok (.invokevirtual 290, 3)) (hc : (st.map fun v => v.category).sum ≤ 16) (hb : oSt' κ σ rb = some b) (hk : kc 201 (va_rf rb :: [a1]) σ (some (.int r), u)) (k : X (pc + 3) lv (.int r :: st) u) : X pc lv (a1 :: va_rf rb :: st) σ := ow_cKi hX (as := [a1]) d (List.mem_of_getElem? (i := 179) rfl) oM_201 rfl rfl rfl hc hb rfl hk k
theorem oc_RX12_297 (hX : oSem RX12 cc nL kd ret κ kc w0 X) {a1 : Value} {a2 : Value} {r : Option Nat} (d : decode cc pc = .ok (.invokestatic 297, 3)) (hc : (st.map fun v => v.category).sum ≤ 16) (hk : kc 240 [a1, a2] σ (some (va_rf r), u)) (k : X (pc + 3) lv (va_rf r :: st) u) : X pc lv (a2 :: a1 :: st) σ := os_callSq hX (as := [a1, a2]) d (List.mem_of_getElem? (i := 180) rfl) oM_240 rfl rfl rfl hc hk k
theorem oc_RX12_306 (hX : oSem RX12 cc nL kd ret κ kc w0 X) {a1 : Value} {a2 : Value} {a3 : Value} {r : Int32} {rb : Option Nat} {b : Nat} (d : decode cc pc = .ok (.invokevirtual 306, 3)) (hc : (st.map fun v => v.category).sum ≤ 16) (hb : oob σ rb 5 = some b) (hk : kc 74 (va_rf rb :: [a1, a2, a3]) σ (some (.int r), u)) (k : X (pc + 3) lv (.int r :: st) u) : X pc lv (a3 :: a2 :: a1 :: va_rf rb :: st) σ := ow_cVi hX (as := [a1, a2, a3]) d (List.mem_of_getElem? (i := 181) rfl) oM_74 rfl rfl rfl hc hb ⟨by decide, rfl⟩ hk k
theorem oc_RX12_310 (hX : oSem RX12 cc nL kd ret κ kc w0 X) {a1 : Value} {a2 : Value} {a3 : Value} {r : Int32} {rb : Option Nat} {b : Nat} (d : decode cc pc = .ok (.invokevirtual 310, 3)) (hc : (st.map fun v => v.category).sum ≤ 16) (hb : oob σ rb 5 = some b) (hk : kc 75 (va_rf rb :: [a1, a2, a3]) σ (some (.int r), u)) (k : X (pc + 3) lv (.int r :: st) u) : X pc lv (a3 :: a2 :: a1 :: va_rf rb :: st) σ := ow_cVi hX (as := [a1, a2, a3]) d (List.mem_of_getElem? (i := 182) rfl) oM_75 rfl rfl rfl hc hb ⟨by decide, rfl⟩ hk k
theorem oc_RX12_313 (hX : oSem RX12 cc nL kd ret κ kc w0 X) {a1 : Value} {r : Int32} {rb : Option Nat} {b : Nat} (d : decode cc pc = .ok (.invokevirtual 313, 3)) (hc : (st.map fun v => v.category).sum ≤ 16) (hb : oob σ rb 5 = some b) (hk : kc 101 (va_rf rb :: [a1]) σ (some (.int r), u)) (k : X (pc + 3) lv (.int r :: st) u) : X pc lv (a1 :: va_rf rb :: st) σ := ow_cVi hX (as := [a1]) d (List.mem_of_getElem? (i := 183) rfl) oM_101 rfl rfl rfl hc hb ⟨by decide, rfl⟩ hk k
theorem oc_RX2_25 (hX : oSem RX2 cc nL kd ret κ kc w0 X) {a1 : Value} {rb : Option Nat} {b : Nat} (d : decode cc pc = .ok (.invokespecial 25, 3)) (hc : (st.map fun v => v.category).sum ≤ 8) (hb : rb = some b) (hk : kc 1 (va_rf rb :: [a1]) σ (none, u)) (k : X (pc + 3) lv st u) : X pc lv (a1 :: va_rf rb :: st) σ := ow_cI hX (as := [a1]) d (List.mem_of_getElem? (i := 184) rfl) oM_1 rfl rfl rfl hc hb hk k
theorem oc_RX2_28 (hX : oSem RX2 cc nL kd ret κ kc w0 X) {r : Int32} {rb : Option Nat} {b : Nat} (d : decode cc pc = .ok (.invokevirtual 28, 3)) (hc : (st.map fun v => v.category).sum ≤ 16) (hb : oob σ rb 11 = some b) (hk : kc 14 (va_rf rb :: []) σ (some (.int r), u)) (k : X (pc + 3) lv (.int r :: st) u) : X pc lv (va_rf rb :: st) σ := ow_cVi hX (as := []) d (List.mem_of_getElem? (i := 185) rfl) oM_14 rfl rfl rfl hc hb ⟨by decide, rfl⟩ hk k
theorem oc_RX2_34 (hX : oSem RX2 cc nL kd ret κ kc w0 X) {a1 : Value} {rb : Option Nat} {b : Nat} (d : decode cc pc = .ok (.invokevirtual 34, 3)) (hc : (st.map fun v => v.category).sum ≤ 16) (hb : oob σ rb 4 = some b) (hk : kc 15 (va_rf rb :: [a1]) σ (none, u)) (k : X (pc + 3) lv (st) u) : X pc lv (a1 :: va_rf rb :: st) σ := ow_cVv hX (as := [a1]) d (List.mem_of_getElem? (i := 186) rfl) oM_15 rfl rfl rfl hc hb ⟨by decide, rfl⟩ hk k
theorem oc_RX2_37 (hX : oSem RX2 cc nL kd ret κ kc w0 X) {a1 : Value} {a2 : Value} {rb : Option Nat} {b : Nat} (d : decode cc pc = .ok (.invokevirtual 37, 3)) (hc : (st.map fun v => v.category).sum ≤ 16) (hb : oob σ rb 4 = some b) (hk : kc 16 (va_rf rb :: [a1, a2]) σ (none, u)) (k : X (pc + 3) lv (st) u) : X pc lv (a2 :: a1 :: va_rf rb :: st) σ := ow_cVv hX (as := [a1, a2]) d (List.mem_of_getElem? (i := 187) rfl) oM_16 rfl rfl rfl hc hb ⟨by decide, rfl⟩ hk k
theorem oc_RX2_72 (hX : oSem RX2 cc nL kd ret κ kc w0 X) {a1 : Value} {r : Option Nat} {rb : Option Nat} {b : Nat} (d : decode cc pc = .ok (.invokevirtual 72, 3)) (hc : (st.map fun v => v.category).sum ≤ 16) (hb : oob σ rb 4 = some b) (hk : kc 45 (va_rf rb :: [a1]) σ (some (va_rf r), u)) (k : X (pc + 3) lv (va_rf r :: st) u) : X pc lv (a1 :: va_rf rb :: st) σ := ow_cVq hX (as := [a1]) d (List.mem_of_getElem? (i := 188) rfl) oM_45 rfl rfl rfl hc hb ⟨by decide, rfl⟩ hk k
theorem oc_RX2_79 (hX : oSem RX2 cc nL kd ret κ kc w0 X) {a1 : Value} {a2 : Value} {a3 : Value} {rb : Option Nat} {b : Nat} (d : decode cc pc = .ok (.invokespecial 79, 3)) (hc : (st.map fun v => v.category).sum ≤ 8) (hb : rb = some b) (hk : kc 3 (va_rf rb :: [a1, a2, a3]) σ (none, u)) (k : X (pc + 3) lv st u) : X pc lv (a3 :: a2 :: a1 :: va_rf rb :: st) σ := ow_cI hX (as := [a1, a2, a3]) d (List.mem_of_getElem? (i := 189) rfl) oM_3 rfl rfl rfl hc hb hk k
theorem oc_RX3_48 (hX : oSem RX3 cc nL kd ret κ kc w0 X) {a1 : Value} {a2 : Value} (d : decode cc pc = .ok (.invokestatic 48, 3)) (hc : (st.map fun v => v.category).sum ≤ 16) (hk : kc 241 [a1, a2] σ (none, u)) (k : X (pc + 3) lv (st) u) : X pc lv (a2 :: a1 :: st) σ := os_callSv hX (as := [a1, a2]) d (List.mem_of_getElem? (i := 190) rfl) oM_241 rfl rfl rfl hc hk k
theorem oc_RX3_54 (hX : oSem RX3 cc nL kd ret κ kc w0 X) {a1 : Value} {a2 : Value} (d : decode cc pc = .ok (.invokestatic 54, 3)) (hc : (st.map fun v => v.category).sum ≤ 16) (hk : kc 242 [a1, a2] σ (none, u)) (k : X (pc + 3) lv (st) u) : X pc lv (a2 :: a1 :: st) σ := os_callSv hX (as := [a1, a2]) d (List.mem_of_getElem? (i := 191) rfl) oM_242 rfl rfl rfl hc hk k
theorem oc_RX3_63 (hX : oSem RX3 cc nL kd ret κ kc w0 X) {rb : Option Nat} {b : Nat} (d : decode cc pc = .ok (.invokevirtual 63, 3)) (hc : (st.map fun v => v.category).sum ≤ 16) (hb : oob σ rb 5 = some b) (hk : kc 80 (va_rf rb :: []) σ (none, u)) (k : X (pc + 3) lv (st) u) : X pc lv (va_rf rb :: st) σ := ow_cVv hX (as := []) d (List.mem_of_getElem? (i := 192) rfl) oM_80 rfl rfl rfl hc hb ⟨by decide, rfl⟩ hk k
theorem oc_RX3_76 (hX : oSem RX3 cc nL kd ret κ kc w0 X) {a1 : Value} {r : Option Nat} {rb : Option Nat} {b : Nat} (d : decode cc pc = .ok (.invokevirtual 76, 3)) (hc : (st.map fun v => v.category).sum ≤ 16) (hb : oob σ rb 5 = some b) (hk : kc 99 (va_rf rb :: [a1]) σ (some (va_rf r), u)) (k : X (pc + 3) lv (va_rf r :: st) u) : X pc lv (a1 :: va_rf rb :: st) σ := ow_cVq hX (as := [a1]) d (List.mem_of_getElem? (i := 193) rfl) oM_99 rfl rfl rfl hc hb ⟨by decide, rfl⟩ hk k
theorem oc_RX3_80 (hX : oSem RX3 cc nL kd ret κ kc w0 X) {r : Option Nat} {rb : Option Nat} {b : Nat} (d : decode cc pc = .ok (.invokevirtual 80, 3)) (hc : (st.map fun v => v.category).sum ≤ 16) (hb : oob σ rb 5 = some b) (hk : kc 100 (va_rf rb :: []) σ (some (va_rf r), u)) (k : X (pc + 3) lv (va_rf r :: st) u) : X pc lv (va_rf rb :: st) σ := ow_cVq hX (as := []) d (List.mem_of_getElem? (i := 194) rfl) oM_100 rfl rfl rfl hc hb ⟨by decide, rfl⟩ hk k
theorem oc_RX3_90 (hX : oSem RX3 cc nL kd ret κ kc w0 X) {a1 : Value} {a2 : Value} {r : Int64} {rb : Option Nat} {b : Nat} (d : decode cc pc = .ok (.invokevirtual 90, 3)) (hc : (st.map fun v => v.category).sum ≤ 16) (hb : oob σ rb 5 = some b) (hk : kc 84 (va_rf rb :: [a1, a2]) σ (some (.long r), u)) (k : X (pc + 3) lv (.long r :: st) u) : X pc lv (a2 :: a1 :: va_rf rb :: st) σ := ow_cVl hX (as := [a1, a2]) d (List.mem_of_getElem? (i := 195) rfl) oM_84 rfl rfl rfl hc hb ⟨by decide, rfl⟩ hk k
theorem oc_RX3_113 (hX : oSem RX3 cc nL kd ret κ kc w0 X) {a1 : Value} {r : Option Nat} {rb : Option Nat} {b : Nat} (d : decode cc pc = .ok (.invokevirtual 113, 3)) (hc : (st.map fun v => v.category).sum ≤ 16) (hb : oob σ rb 1 = some b) (hk : kc 234 (va_rf rb :: [a1]) σ (some (va_rf r), u)) (k : X (pc + 3) lv (va_rf r :: st) u) : X pc lv (a1 :: va_rf rb :: st) σ := ow_cVq hX (as := [a1]) d (List.mem_of_getElem? (i := 196) rfl) oM_234 rfl rfl rfl hc hb ⟨by decide, rfl⟩ hk k
theorem oc_RX3_124 (hX : oSem RX3 cc nL kd ret κ kc w0 X) {a1 : Value} {r : Int64} {rb : Option Nat} {b : Nat} (d : decode cc pc = .ok (.invokevirtual 124, 3)) (hc : (st.map fun v => v.category).sum ≤ 16) (hb : oob σ rb 5 = some b) (hk : kc 78 (va_rf rb :: [a1]) σ (some (.long r), u)) (k : X (pc + 3) lv (.long r :: st) u) : X pc lv (a1 :: va_rf rb :: st) σ := ow_cVl hX (as := [a1]) d (List.mem_of_getElem? (i := 197) rfl) oM_78 rfl rfl rfl hc hb ⟨by decide, rfl⟩ hk k
theorem oc_RX3_128 (hX : oSem RX3 cc nL kd ret κ kc w0 X) {a1 : Value} {a2 : Value} {r : Int32} {rb : Option Nat} {b : Nat} (d : decode cc pc = .ok (.invokevirtual 128, 3)) (hc : (st.map fun v => v.category).sum ≤ 16) (hb : oob σ rb 5 = some b) (hk : kc 79 (va_rf rb :: [a1, a2]) σ (some (.int r), u)) (k : X (pc + 3) lv (.int r :: st) u) : X pc lv (a2 :: a1 :: va_rf rb :: st) σ := ow_cVi hX (as := [a1, a2]) d (List.mem_of_getElem? (i := 198) rfl) oM_79 rfl rfl rfl hc hb ⟨by decide, rfl⟩ hk k
theorem oc_RX3_132 (hX : oSem RX3 cc nL kd ret κ kc w0 X) {a1 : Value} {r : Int32} {rb : Option Nat} {b : Nat} (d : decode cc pc = .ok (.invokevirtual 132, 3)) (hc : (st.map fun v => v.category).sum ≤ 16) (hb : oob σ rb 5 = some b) (hk : kc 77 (va_rf rb :: [a1]) σ (some (.int r), u)) (k : X (pc + 3) lv (.int r :: st) u) : X pc lv (a1 :: va_rf rb :: st) σ := ow_cVi hX (as := [a1]) d (List.mem_of_getElem? (i := 199) rfl) oM_77 rfl rfl rfl hc hb ⟨by decide, rfl⟩ hk k
theorem oc_RX3_136 (hX : oSem RX3 cc nL kd ret κ kc w0 X) {a1 : Value} {a2 : Value} {r : Option Nat} (d : decode cc pc = .ok (.invokestatic 136, 3)) (hc : (st.map fun v => v.category).sum ≤ 16) (hk : kc 239 [a1, a2] σ (some (va_rf r), u)) (k : X (pc + 3) lv (va_rf r :: st) u) : X pc lv (a2 :: a1 :: st) σ := os_callSq hX (as := [a1, a2]) d (List.mem_of_getElem? (i := 200) rfl) oM_239 rfl rfl rfl hc hk k
theorem oc_RX3_140 (hX : oSem RX3 cc nL kd ret κ kc w0 X) {a1 : Value} {r : Int32} {rb : Option Nat} {b : Nat} (d : decode cc pc = .ok (.invokevirtual 140, 3)) (hc : (st.map fun v => v.category).sum ≤ 16) (hb : oob σ rb 5 = some b) (hk : kc 76 (va_rf rb :: [a1]) σ (some (.int r), u)) (k : X (pc + 3) lv (.int r :: st) u) : X pc lv (a1 :: va_rf rb :: st) σ := ow_cVi hX (as := [a1]) d (List.mem_of_getElem? (i := 201) rfl) oM_76 rfl rfl rfl hc hb ⟨by decide, rfl⟩ hk k
theorem oc_RX3_146 (hX : oSem RX3 cc nL kd ret κ kc w0 X) {a1 : Value} {a2 : Value} {a3 : Value} {rb : Option Nat} {b : Nat} (d : decode cc pc = .ok (.invokevirtual 146, 3)) (hc : (st.map fun v => v.category).sum ≤ 16) (hb : oob σ rb 5 = some b) (hk : kc 81 (va_rf rb :: [a1, a2, a3]) σ (none, u)) (k : X (pc + 3) lv (st) u) : X pc lv (a3 :: a2 :: a1 :: va_rf rb :: st) σ := ow_cVv hX (as := [a1, a2, a3]) d (List.mem_of_getElem? (i := 202) rfl) oM_81 rfl rfl rfl hc hb ⟨by decide, rfl⟩ hk k
theorem oc_RX3_156 (hX : oSem RX3 cc nL kd ret κ kc w0 X) {a1 : Value} {a2 : Value} {a3 : Value} {r : Int32} {rb : Option Nat} {b : Nat} (d : decode cc pc = .ok (.invokevirtual 156, 3)) (hc : (st.map fun v => v.category).sum ≤ 16) (hb : oob σ rb 5 = some b) (hk : kc 82 (va_rf rb :: [a1, a2, a3]) σ (some (.int r), u)) (k : X (pc + 3) lv (.int r :: st) u) : X pc lv (a3 :: a2 :: a1 :: va_rf rb :: st) σ := ow_cVi hX (as := [a1, a2, a3]) d (List.mem_of_getElem? (i := 203) rfl) oM_82 rfl rfl rfl hc hb ⟨by decide, rfl⟩ hk k
theorem oc_RX3_166 (hX : oSem RX3 cc nL kd ret κ kc w0 X) {a1 : Value} {r : Int32} {rb : Option Nat} {b : Nat} (d : decode cc pc = .ok (.invokevirtual 166, 3)) (hc : (st.map fun v => v.category).sum ≤ 16) (hb : oob σ rb 5 = some b) (hk : kc 87 (va_rf rb :: [a1]) σ (some (.int r), u)) (k : X (pc + 3) lv (.int r :: st) u) : X pc lv (a1 :: va_rf rb :: st) σ := ow_cVi hX (as := [a1]) d (List.mem_of_getElem? (i := 204) rfl) oM_87 rfl rfl rfl hc hb ⟨by decide, rfl⟩ hk k
theorem oc_RX3_170 (hX : oSem RX3 cc nL kd ret κ kc w0 X) {a1 : Value} {rb : Option Nat} {b : Nat} (d : decode cc pc = .ok (.invokevirtual 170, 3)) (hc : (st.map fun v => v.category).sum ≤ 16) (hb : oob σ rb 5 = some b) (hk : kc 89 (va_rf rb :: [a1]) σ (none, u)) (k : X (pc + 3) lv (st) u) : X pc lv (a1 :: va_rf rb :: st) σ := ow_cVv hX (as := [a1]) d (List.mem_of_getElem? (i := 205) rfl) oM_89 rfl rfl rfl hc hb ⟨by decide, rfl⟩ hk k
theorem oc_RX3_174 (hX : oSem RX3 cc nL kd ret κ kc w0 X) {a1 : Value} {r : Option Nat} {rb : Option Nat} {b : Nat} (d : decode cc pc = .ok (.invokevirtual 174, 3)) (hc : (st.map fun v => v.category).sum ≤ 16) (hb : oob σ rb 5 = some b) (hk : kc 90 (va_rf rb :: [a1]) σ (some (va_rf r), u)) (k : X (pc + 3) lv (va_rf r :: st) u) : X pc lv (a1 :: va_rf rb :: st) σ := ow_cVq hX (as := [a1]) d (List.mem_of_getElem? (i := 206) rfl) oM_90 rfl rfl rfl hc hb ⟨by decide, rfl⟩ hk k
theorem oc_RX3_177 (hX : oSem RX3 cc nL kd ret κ kc w0 X) {a1 : Value} {r : Option Nat} {rb : Option Nat} {b : Nat} (d : decode cc pc = .ok (.invokevirtual 177, 3)) (hc : (st.map fun v => v.category).sum ≤ 16) (hb : oob σ rb 5 = some b) (hk : kc 93 (va_rf rb :: [a1]) σ (some (va_rf r), u)) (k : X (pc + 3) lv (va_rf r :: st) u) : X pc lv (a1 :: va_rf rb :: st) σ := ow_cVq hX (as := [a1]) d (List.mem_of_getElem? (i := 207) rfl) oM_93 rfl rfl rfl hc hb ⟨by decide, rfl⟩ hk k
theorem oc_RX3_180 (hX : oSem RX3 cc nL kd ret κ kc w0 X) {a1 : Value} {r : Int64} {rb : Option Nat} {b : Nat} (d : decode cc pc = .ok (.invokevirtual 180, 3)) (hc : (st.map fun v => v.category).sum ≤ 16) (hb : oob σ rb 5 = some b) (hk : kc 98 (va_rf rb :: [a1]) σ (some (.long r), u)) (k : X (pc + 3) lv (.long r :: st) u) : X pc lv (a1 :: va_rf rb :: st) σ := ow_cVl hX (as := [a1]) d (List.mem_of_getElem? (i := 208) rfl) oM_98 rfl rfl rfl hc hb ⟨by decide, rfl⟩ hk k
theorem oc_RX3_184 (hX : oSem RX3 cc nL kd ret κ kc w0 X) {a1 : Value} {a2 : Value} {r : Option Nat} {rb : Option Nat} {b : Nat} (d : decode cc pc = .ok (.invokevirtual 184, 3)) (hc : (st.map fun v => v.category).sum ≤ 16) (hb : oob σ rb 5 = some b) (hk : kc 92 (va_rf rb :: [a1, a2]) σ (some (va_rf r), u)) (k : X (pc + 3) lv (va_rf r :: st) u) : X pc lv (a2 :: a1 :: va_rf rb :: st) σ := ow_cVq hX (as := [a1, a2]) d (List.mem_of_getElem? (i := 209) rfl) oM_92 rfl rfl rfl hc hb ⟨by decide, rfl⟩ hk k
theorem oc_RX3_191 (hX : oSem RX3 cc nL kd ret κ kc w0 X) {r : Int32} {rb : Option Nat} {b : Nat} (d : decode cc pc = .ok (.invokevirtual 191, 3)) (hc : (st.map fun v => v.category).sum ≤ 16) (hb : oob σ rb 1 = some b) (hk : kc 236 (va_rf rb :: []) σ (some (.int r), u)) (k : X (pc + 3) lv (.int r :: st) u) : X pc lv (va_rf rb :: st) σ := ow_cVi hX (as := []) d (List.mem_of_getElem? (i := 210) rfl) oM_236 rfl rfl rfl hc hb ⟨by decide, rfl⟩ hk k
theorem oc_RX3_195 (hX : oSem RX3 cc nL kd ret κ kc w0 X) {a1 : Value} {r : Int64} {rb : Option Nat} {b : Nat} (d : decode cc pc = .ok (.invokevirtual 195, 3)) (hc : (st.map fun v => v.category).sum ≤ 16) (hb : oob σ rb 5 = some b) (hk : kc 91 (va_rf rb :: [a1]) σ (some (.long r), u)) (k : X (pc + 3) lv (.long r :: st) u) : X pc lv (a1 :: va_rf rb :: st) σ := ow_cVl hX (as := [a1]) d (List.mem_of_getElem? (i := 211) rfl) oM_91 rfl rfl rfl hc hb ⟨by decide, rfl⟩ hk k
theorem oc_RX3_205 (hX : oSem RX3 cc nL kd ret κ kc w0 X) {a1 : Value} {a2 : Value} {r : Int64} {rb : Option Nat} {b : Nat} (d : decode cc pc = .ok (.invokevirtual 205, 3)) (hc : (st.map fun v => v.category).sum ≤ 16) (hb : oob σ rb 5 = some b) (hk : kc 83 (va_rf rb :: [a1, a2]) σ (some (.long r), u)) (k : X (pc + 3) lv (.long r :: st) u) : X pc lv (a2 :: a1 :: va_rf rb :: st) σ := ow_cVl hX (as := [a1, a2]) d (List.mem_of_getElem? (i := 212) rfl) oM_83 rfl rfl rfl hc hb ⟨by decide, rfl⟩ hk k
theorem oc_RX3_212 (hX : oSem RX3 cc nL kd ret κ kc w0 X) {a1 : Value} {r : Int64} {rb : Option Nat} {b : Nat} (d : decode cc pc = .ok (.invokevirtual 212, 3)) (hc : (st.map fun v => v.category).sum ≤ 16) (hb : oob σ rb 5 = some b) (hk : kc 85 (va_rf rb :: [a1]) σ (some (.long r), u)) (k : X (pc + 3) lv (.long r :: st) u) : X pc lv (a1 :: va_rf rb :: st) σ := ow_cVl hX (as := [a1]) d (List.mem_of_getElem? (i := 213) rfl) oM_85 rfl rfl rfl hc hb ⟨by decide, rfl⟩ hk k
theorem oc_RX3_221 (hX : oSem RX3 cc nL kd ret κ kc w0 X) {a1 : Value} {r : Int32} {rb : Option Nat} {b : Nat} (d : decode cc pc = .ok (.invokevirtual 221, 3)) (hc : (st.map fun v => v.category).sum ≤ 16) (hb : oob σ rb 5 = some b) (hk : kc 88 (va_rf rb :: [a1]) σ (some (.int r), u)) (k : X (pc + 3) lv (.int r :: st) u) : X pc lv (a1 :: va_rf rb :: st) σ := ow_cVi hX (as := [a1]) d (List.mem_of_getElem? (i := 214) rfl) oM_88 rfl rfl rfl hc hb ⟨by decide, rfl⟩ hk k
theorem oc_RX3_231 (hX : oSem RX3 cc nL kd ret κ kc w0 X) {a1 : Value} {r : Int64} {rb : Option Nat} {b : Nat} (d : decode cc pc = .ok (.invokevirtual 231, 3)) (hc : (st.map fun v => v.category).sum ≤ 16) (hb : oob σ rb 5 = some b) (hk : kc 94 (va_rf rb :: [a1]) σ (some (.long r), u)) (k : X (pc + 3) lv (.long r :: st) u) : X pc lv (a1 :: va_rf rb :: st) σ := ow_cVl hX (as := [a1]) d (List.mem_of_getElem? (i := 215) rfl) oM_94 rfl rfl rfl hc hb ⟨by decide, rfl⟩ hk k
theorem oc_RX3_235 (hX : oSem RX3 cc nL kd ret κ kc w0 X) {a1 : Value} {r : Int64} {rb : Option Nat} {b : Nat} (d : decode cc pc = .ok (.invokevirtual 235, 3)) (hc : (st.map fun v => v.category).sum ≤ 16) (hb : oob σ rb 5 = some b) (hk : kc 95 (va_rf rb :: [a1]) σ (some (.long r), u)) (k : X (pc + 3) lv (.long r :: st) u) : X pc lv (a1 :: va_rf rb :: st) σ := ow_cVl hX (as := [a1]) d (List.mem_of_getElem? (i := 216) rfl) oM_95 rfl rfl rfl hc hb ⟨by decide, rfl⟩ hk k
theorem oc_RX3_238 (hX : oSem RX3 cc nL kd ret κ kc w0 X) {a1 : Value} {a2 : Value} {r : Int64} {rb : Option Nat} {b : Nat} (d : decode cc pc = .ok (.invokevirtual 238, 3)) (hc : (st.map fun v => v.category).sum ≤ 16) (hb : oob σ rb 5 = some b) (hk : kc 96 (va_rf rb :: [a1, a2]) σ (some (.long r), u)) (k : X (pc + 3) lv (.long r :: st) u) : X pc lv (a2 :: a1 :: va_rf rb :: st) σ := ow_cVl hX (as := [a1, a2]) d (List.mem_of_getElem? (i := 217) rfl) oM_96 rfl rfl rfl hc hb ⟨by decide, rfl⟩ hk k
theorem oc_RX3_242 (hX : oSem RX3 cc nL kd ret κ kc w0 X) {a1 : Value} {r : Int64} {rb : Option Nat} {b : Nat} (d : decode cc pc = .ok (.invokevirtual 242, 3)) (hc : (st.map fun v => v.category).sum ≤ 16) (hb : oob σ rb 5 = some b) (hk : kc 97 (va_rf rb :: [a1]) σ (some (.long r), u)) (k : X (pc + 3) lv (.long r :: st) u) : X pc lv (a1 :: va_rf rb :: st) σ := ow_cVl hX (as := [a1]) d (List.mem_of_getElem? (i := 218) rfl) oM_97 rfl rfl rfl hc hb ⟨by decide, rfl⟩ hk k
theorem oc_RX3_256 (hX : oSem RX3 cc nL kd ret κ kc w0 X) {a1 : Value} {a2 : Value} {r : Int64} (d : decode cc pc = .ok (.invokestatic 256, 3)) (hc : (st.map fun v => v.category).sum ≤ 16) (hk : kc 243 [a1, a2] σ (some (.long r), u)) (k : X (pc + 3) lv (.long r :: st) u) : X pc lv (a2 :: a1 :: st) σ := os_callSl hX (as := [a1, a2]) d (List.mem_of_getElem? (i := 219) rfl) oM_243 rfl rfl rfl hc hk k
theorem oc_RX3_260 (hX : oSem RX3 cc nL kd ret κ kc w0 X) {a1 : Value} {a2 : Value} {r : Int64} (d : decode cc pc = .ok (.invokestatic 260, 3)) (hc : (st.map fun v => v.category).sum ≤ 16) (hk : kc 244 [a1, a2] σ (some (.long r), u)) (k : X (pc + 3) lv (.long r :: st) u) : X pc lv (a2 :: a1 :: st) σ := os_callSl hX (as := [a1, a2]) d (List.mem_of_getElem? (i := 220) rfl) oM_244 rfl rfl rfl hc hk k
theorem oc_RX3_286 (hX : oSem RX3 cc nL kd ret κ kc w0 X) {a1 : Value} {a2 : Value} {a3 : Value} {r : Int32} {rb : Option Nat} {b : Nat} (d : decode cc pc = .ok (.invokevirtual 286, 3)) (hc : (st.map fun v => v.category).sum ≤ 16) (hb : oob σ rb 5 = some b) (hk : kc 86 (va_rf rb :: [a1, a2, a3]) σ (some (.int r), u)) (k : X (pc + 3) lv (.int r :: st) u) : X pc lv (a3 :: a2 :: a1 :: va_rf rb :: st) σ := ow_cVi hX (as := [a1, a2, a3]) d (List.mem_of_getElem? (i := 221) rfl) oM_86 rfl rfl rfl hc hb ⟨by decide, rfl⟩ hk k
theorem oc_RX6_27 (hX : oSem RX6 cc nL kd ret κ kc w0 X) {a1 : Value} {rb : Option Nat} {b : Nat} (d : decode cc pc = .ok (.invokevirtual 27, 3)) (hc : (st.map fun v => v.category).sum ≤ 16) (hb : oob σ rb 8 = some b) (hk : kc 40 (va_rf rb :: [a1]) σ (none, u)) (k : X (pc + 3) lv (st) u) : X pc lv (a1 :: va_rf rb :: st) σ := ow_cVv hX (as := [a1]) d (List.mem_of_getElem? (i := 222) rfl) oM_40 rfl rfl rfl hc hb ⟨by decide, rfl⟩ hk k
theorem oc_RX6_33 (hX : oSem RX6 cc nL kd ret κ kc w0 X) {a1 : Value} {a2 : Value} {r : Option Nat} (d : decode cc pc = .ok (.invokestatic 33, 3)) (hc : (st.map fun v => v.category).sum ≤ 16) (hk : kc 239 [a1, a2] σ (some (va_rf r), u)) (k : X (pc + 3) lv (va_rf r :: st) u) : X pc lv (a2 :: a1 :: st) σ := os_callSq hX (as := [a1, a2]) d (List.mem_of_getElem? (i := 223) rfl) oM_239 rfl rfl rfl hc hk k
theorem oc_RX6_51 (hX : oSem RX6 cc nL kd ret κ kc w0 X) {a1 : Value} {a2 : Value} {a3 : Value} {rb : Option Nat} {b : Nat} (d : decode cc pc = .ok (.invokevirtual 51, 3)) (hc : (st.map fun v => v.category).sum ≤ 16) (hb : oob σ rb 8 = some b) (hk : kc 42 (va_rf rb :: [a1, a2, a3]) σ (none, u)) (k : X (pc + 3) lv (st) u) : X pc lv (a3 :: a2 :: a1 :: va_rf rb :: st) σ := ow_cVv hX (as := [a1, a2, a3]) d (List.mem_of_getElem? (i := 224) rfl) oM_42 rfl rfl rfl hc hb ⟨by decide, rfl⟩ hk k
theorem oc_RX6_55 (hX : oSem RX6 cc nL kd ret κ kc w0 X) {rb : Option Nat} {b : Nat} (d : decode cc pc = .ok (.invokevirtual 55, 3)) (hc : (st.map fun v => v.category).sum ≤ 16) (hb : oob σ rb 8 = some b) (hk : kc 43 (va_rf rb :: []) σ (none, u)) (k : X (pc + 3) lv (st) u) : X pc lv (va_rf rb :: st) σ := ow_cVv hX (as := []) d (List.mem_of_getElem? (i := 225) rfl) oM_43 rfl rfl rfl hc hb ⟨by decide, rfl⟩ hk k
theorem oc_RX7_19 (hX : oSem RX7 cc nL kd ret κ kc w0 X) {rb : Option Nat} {b : Nat} (d : decode cc pc = .ok (.invokespecial 19, 3)) (hc : (st.map fun v => v.category).sum ≤ 8) (hb : rb = some b) (hk : kc 224 (va_rf rb :: []) σ (none, u)) (k : X (pc + 3) lv st u) : X pc lv (va_rf rb :: st) σ := ow_cI hX (as := []) d (List.mem_of_getElem? (i := 226) rfl) oM_224 rfl rfl rfl hc hb hk k
theorem oc_RX7_57 (hX : oSem RX7 cc nL kd ret κ kc w0 X) {r : Int32} {rb : Option Nat} {b : Nat} (d : decode cc pc = .ok (.invokevirtual 57, 3)) (hc : (st.map fun v => v.category).sum ≤ 16) (hb : oob σ rb 9 = some b) (hk : kc 104 (va_rf rb :: []) σ (some (.int r), u)) (k : X (pc + 3) lv (.int r :: st) u) : X pc lv (va_rf rb :: st) σ := ow_cVi hX (as := []) d (List.mem_of_getElem? (i := 227) rfl) oM_104 rfl rfl rfl hc hb ⟨by decide, rfl⟩ hk k
theorem oc_RX7_61 (hX : oSem RX7 cc nL kd ret κ kc w0 X) {rb : Option Nat} {b : Nat} (d : decode cc pc = .ok (.invokevirtual 61, 3)) (hc : (st.map fun v => v.category).sum ≤ 16) (hb : oob σ rb 9 = some b) (hk : kc 112 (va_rf rb :: []) σ (none, u)) (k : X (pc + 3) lv (st) u) : X pc lv (va_rf rb :: st) σ := ow_cVv hX (as := []) d (List.mem_of_getElem? (i := 228) rfl) oM_112 rfl rfl rfl hc hb ⟨by decide, rfl⟩ hk k
theorem oc_RX7_67 (hX : oSem RX7 cc nL kd ret κ kc w0 X) {rb : Option Nat} {b : Nat} (d : decode cc pc = .ok (.invokevirtual 67, 3)) (hc : (st.map fun v => v.category).sum ≤ 16) (hb : oob σ rb 9 = some b) (hk : kc 117 (va_rf rb :: []) σ (none, u)) (k : X (pc + 3) lv (st) u) : X pc lv (va_rf rb :: st) σ := ow_cVv hX (as := []) d (List.mem_of_getElem? (i := 229) rfl) oM_117 rfl rfl rfl hc hb ⟨by decide, rfl⟩ hk k
theorem oc_RX7_70 (hX : oSem RX7 cc nL kd ret κ kc w0 X) {a1 : Value} {r : Option Nat} {rb : Option Nat} {b : Nat} (d : decode cc pc = .ok (.invokevirtual 70, 3)) (hc : (st.map fun v => v.category).sum ≤ 16) (hb : oob σ rb 9 = some b) (hk : kc 135 (va_rf rb :: [a1]) σ (some (va_rf r), u)) (k : X (pc + 3) lv (va_rf r :: st) u) : X pc lv (a1 :: va_rf rb :: st) σ := ow_cVq hX (as := [a1]) d (List.mem_of_getElem? (i := 230) rfl) oM_135 rfl rfl rfl hc hb ⟨by decide, rfl⟩ hk k
theorem oc_RX7_78 (hX : oSem RX7 cc nL kd ret κ kc w0 X) {rb : Option Nat} {b : Nat} (d : decode cc pc = .ok (.invokevirtual 78, 3)) (hc : (st.map fun v => v.category).sum ≤ 16) (hb : oob σ rb 9 = some b) (hk : kc 107 (va_rf rb :: []) σ (none, u)) (k : X (pc + 3) lv (st) u) : X pc lv (va_rf rb :: st) σ := ow_cVv hX (as := []) d (List.mem_of_getElem? (i := 231) rfl) oM_107 rfl rfl rfl hc hb ⟨by decide, rfl⟩ hk k
theorem oc_RX7_95 (hX : oSem RX7 cc nL kd ret κ kc w0 X) {r : Int32} {rb : Option Nat} {b : Nat} (d : decode cc pc = .ok (.invokevirtual 95, 3)) (hc : (st.map fun v => v.category).sum ≤ 16) (hb : oob σ rb 9 = some b) (hk : kc 106 (va_rf rb :: []) σ (some (.int r), u)) (k : X (pc + 3) lv (.int r :: st) u) : X pc lv (va_rf rb :: st) σ := ow_cVi hX (as := []) d (List.mem_of_getElem? (i := 232) rfl) oM_106 rfl rfl rfl hc hb ⟨by decide, rfl⟩ hk k
theorem oc_RX7_98 (hX : oSem RX7 cc nL kd ret κ kc w0 X) {rb : Option Nat} {b : Nat} (d : decode cc pc = .ok (.invokevirtual 98, 3)) (hc : (st.map fun v => v.category).sum ≤ 16) (hb : oob σ rb 9 = some b) (hk : kc 105 (va_rf rb :: []) σ (none, u)) (k : X (pc + 3) lv (st) u) : X pc lv (va_rf rb :: st) σ := ow_cVv hX (as := []) d (List.mem_of_getElem? (i := 233) rfl) oM_105 rfl rfl rfl hc hb ⟨by decide, rfl⟩ hk k
theorem oc_RX7_106 (hX : oSem RX7 cc nL kd ret κ kc w0 X) {a1 : Value} {a2 : Value} {a3 : Value} {rb : Option Nat} {b : Nat} (d : decode cc pc = .ok (.invokespecial 106, 3)) (hc : (st.map fun v => v.category).sum ≤ 8) (hb : rb = some b) (hk : kc 102 (va_rf rb :: [a1, a2, a3]) σ (none, u)) (k : X (pc + 3) lv st u) : X pc lv (a3 :: a2 :: a1 :: va_rf rb :: st) σ := ow_cI hX (as := [a1, a2, a3]) d (List.mem_of_getElem? (i := 234) rfl) oM_102 rfl rfl rfl hc hb hk k
theorem oc_RX7_109 (hX : oSem RX7 cc nL kd ret κ kc w0 X) {a1 : Value} {rb : Option Nat} {b : Nat} (d : decode cc pc = .ok (.invokevirtual 109, 3)) (hc : (st.map fun v => v.category).sum ≤ 16) (hb : oob σ rb 9 = some b) (hk : kc 108 (va_rf rb :: [a1]) σ (none, u)) (k : X (pc + 3) lv (st) u) : X pc lv (a1 :: va_rf rb :: st) σ := ow_cVv hX (as := [a1]) d (List.mem_of_getElem? (i := 235) rfl) oM_108 rfl rfl rfl hc hb ⟨by decide, rfl⟩ hk k
theorem oc_RX7_113 (hX : oSem RX7 cc nL kd ret κ kc w0 X) {a1 : Value} {r : Int32} (d : decode cc pc = .ok (.invokestatic 113, 3)) (hc : (st.map fun v => v.category).sum ≤ 16) (hk : kc 109 [a1] σ (some (.int r), u)) (k : X (pc + 3) lv (.int r :: st) u) : X pc lv (a1 :: st) σ := os_callSi hX (as := [a1]) d (List.mem_of_getElem? (i := 236) rfl) oM_109 rfl rfl rfl hc hk k
theorem oc_RX7_117 (hX : oSem RX7 cc nL kd ret κ kc w0 X) {rb : Option Nat} {b : Nat} (d : decode cc pc = .ok (.invokevirtual 117, 3)) (hc : (st.map fun v => v.category).sum ≤ 16) (hb : oob σ rb 9 = some b) (hk : kc 111 (va_rf rb :: []) σ (none, u)) (k : X (pc + 3) lv (st) u) : X pc lv (va_rf rb :: st) σ := ow_cVv hX (as := []) d (List.mem_of_getElem? (i := 237) rfl) oM_111 rfl rfl rfl hc hb ⟨by decide, rfl⟩ hk k
theorem oc_RX7_120 (hX : oSem RX7 cc nL kd ret κ kc w0 X) {a1 : Value} {r : Int32} {rb : Option Nat} {b : Nat} (d : decode cc pc = .ok (.invokevirtual 120, 3)) (hc : (st.map fun v => v.category).sum ≤ 16) (hb : oob σ rb 13 = some b) (hk : kc 110 (va_rf rb :: [a1]) σ (some (.int r), u)) (k : X (pc + 3) lv (.int r :: st) u) : X pc lv (a1 :: va_rf rb :: st) σ := ow_cVi hX (as := [a1]) d (List.mem_of_getElem? (i := 238) rfl) oM_110 rfl rfl rfl hc hb ⟨by decide, rfl⟩ hk k
theorem oc_RX7_124 (hX : oSem RX7 cc nL kd ret κ kc w0 X) {r : Option Nat} {rb : Option Nat} {b : Nat} (d : decode cc pc = .ok (.invokevirtual 124, 3)) (hc : (st.map fun v => v.category).sum ≤ 16) (hb : oob σ rb 9 = some b) (hk : kc 115 (va_rf rb :: []) σ (some (va_rf r), u)) (k : X (pc + 3) lv (va_rf r :: st) u) : X pc lv (va_rf rb :: st) σ := ow_cVq hX (as := []) d (List.mem_of_getElem? (i := 239) rfl) oM_115 rfl rfl rfl hc hb ⟨by decide, rfl⟩ hk k
theorem oc_RX7_131 (hX : oSem RX7 cc nL kd ret κ kc w0 X) {a1 : Value} {rb : Option Nat} {b : Nat} (d : decode cc pc = .ok (.invokevirtual 131, 3)) (hc : (st.map fun v => v.category).sum ≤ 16) (hb : oob σ rb 9 = some b) (hk : kc 116 (va_rf rb :: [a1]) σ (none, u)) (k : X (pc + 3) lv (st) u) : X pc lv (a1 :: va_rf rb :: st) σ := ow_cVv hX (as := [a1]) d (List.mem_of_getElem? (i := 240) rfl) oM_116 rfl rfl rfl hc hb ⟨by decide, rfl⟩ hk k
theorem oc_RX7_136 (hX : oSem RX7 cc nL kd ret κ kc w0 X) {a1 : Value} {a2 : Value} {rb : Option Nat} {b : Nat} (d : decode cc pc = .ok (.invokespecial 136, 3)) (hc : (st.map fun v => v.category).sum ≤ 8) (hb : rb = some b) (hk : kc 7 (va_rf rb :: [a1, a2]) σ (none, u)) (k : X (pc + 3) lv st u) : X pc lv (a2 :: a1 :: va_rf rb :: st) σ := ow_cI hX (as := [a1, a2]) d (List.mem_of_getElem? (i := 241) rfl) oM_7 rfl rfl rfl hc hb hk k
theorem oc_RX7_139 (hX : oSem RX7 cc nL kd ret κ kc w0 X) {a1 : Value} {r : Option Nat} {rb : Option Nat} {b : Nat} (d : decode cc pc = .ok (.invokevirtual 139, 3)) (hc : (st.map fun v => v.category).sum ≤ 16) (hb : oob σ rb 13 = some b) (hk : kc 113 (va_rf rb :: [a1]) σ (some (va_rf r), u)) (k : X (pc + 3) lv (va_rf r :: st) u) : X pc lv (a1 :: va_rf rb :: st) σ := ow_cVq hX (as := [a1]) d (List.mem_of_getElem? (i := 242) rfl) oM_113 rfl rfl rfl hc hb ⟨by decide, rfl⟩ hk k
theorem oc_RX7_147 (hX : oSem RX7 cc nL kd ret κ kc w0 X) {a1 : Value} {r : Option Nat} {rb : Option Nat} {b : Nat} (d : decode cc pc = .ok (.invokevirtual 147, 3)) (hc : (st.map fun v => v.category).sum ≤ 16) (hb : oob σ rb 9 = some b) (hk : kc 114 (va_rf rb :: [a1]) σ (some (va_rf r), u)) (k : X (pc + 3) lv (va_rf r :: st) u) : X pc lv (a1 :: va_rf rb :: st) σ := ow_cVq hX (as := [a1]) d (List.mem_of_getElem? (i := 243) rfl) oM_114 rfl rfl rfl hc hb ⟨by decide, rfl⟩ hk k
theorem oc_RX7_151 (hX : oSem RX7 cc nL kd ret κ kc w0 X) {a1 : Value} {r : Int32} {rb : Option Nat} {b : Nat} (d : decode cc pc = .ok (.invokevirtual 151, 3)) (hc : (st.map fun v => v.category).sum ≤ 16) (hb : oob σ rb 1 = some b) (hk : kc 227 (va_rf rb :: [a1]) σ (some (.int r), u)) (k : X (pc + 3) lv (.int r :: st) u) : X pc lv (a1 :: va_rf rb :: st) σ := ow_cVi hX (as := [a1]) d (List.mem_of_getElem? (i := 244) rfl) oM_227 rfl rfl rfl hc hb ⟨by decide, rfl⟩ hk k
theorem oc_RX7_158 (hX : oSem RX7 cc nL kd ret κ kc w0 X) {a1 : Value} {r : Int32} {rb : Option Nat} {b : Nat} (d : decode cc pc = .ok (.invokevirtual 158, 3)) (hc : (st.map fun v => v.category).sum ≤ 16) (hb : oSt' κ σ rb = some b) (hk : kc 217 (va_rf rb :: [a1]) σ (some (.int r), u)) (k : X (pc + 3) lv (.int r :: st) u) : X pc lv (a1 :: va_rf rb :: st) σ := ow_cKi hX (as := [a1]) d (List.mem_of_getElem? (i := 245) rfl) oM_217 rfl rfl rfl hc hb rfl hk k
theorem oc_RX7_163 (hX : oSem RX7 cc nL kd ret κ kc w0 X) {a1 : Value} {r : Option Nat} {rb : Option Nat} {b : Nat} (d : decode cc pc = .ok (.invokevirtual 163, 3)) (hc : (st.map fun v => v.category).sum ≤ 16) (hb : oob σ rb 9 = some b) (hk : kc 118 (va_rf rb :: [a1]) σ (some (va_rf r), u)) (k : X (pc + 3) lv (va_rf r :: st) u) : X pc lv (a1 :: va_rf rb :: st) σ := ow_cVq hX (as := [a1]) d (List.mem_of_getElem? (i := 246) rfl) oM_118 rfl rfl rfl hc hb ⟨by decide, rfl⟩ hk k
theorem oc_RX7_166 (hX : oSem RX7 cc nL kd ret κ kc w0 X) {a1 : Value} {a2 : Value} {rb : Option Nat} {b : Nat} (d : decode cc pc = .ok (.invokevirtual 166, 3)) (hc : (st.map fun v => v.category).sum ≤ 16) (hb : oob σ rb 9 = some b) (hk : kc 140 (va_rf rb :: [a1, a2]) σ (none, u)) (k : X (pc + 3) lv (st) u) : X pc lv (a2 :: a1 :: va_rf rb :: st) σ := ow_cVv hX (as := [a1, a2]) d (List.mem_of_getElem? (i := 247) rfl) oM_140 rfl rfl rfl hc hb ⟨by decide, rfl⟩ hk k
theorem oc_RX7_170 (hX : oSem RX7 cc nL kd ret κ kc w0 X) {a1 : Value} {a2 : Value} {rb : Option Nat} {b : Nat} (d : decode cc pc = .ok (.invokevirtual 170, 3)) (hc : (st.map fun v => v.category).sum ≤ 16) (hb : oob σ rb 9 = some b) (hk : kc 138 (va_rf rb :: [a1, a2]) σ (none, u)) (k : X (pc + 3) lv (st) u) : X pc lv (a2 :: a1 :: va_rf rb :: st) σ := ow_cVv hX (as := [a1, a2]) d (List.mem_of_getElem? (i := 248) rfl) oM_138 rfl rfl rfl hc hb ⟨by decide, rfl⟩ hk k
theorem oc_RX7_173 (hX : oSem RX7 cc nL kd ret κ kc w0 X) {a1 : Value} {a2 : Value} {rb : Option Nat} {b : Nat} (d : decode cc pc = .ok (.invokevirtual 173, 3)) (hc : (st.map fun v => v.category).sum ≤ 16) (hb : oob σ rb 9 = some b) (hk : kc 139 (va_rf rb :: [a1, a2]) σ (none, u)) (k : X (pc + 3) lv (st) u) : X pc lv (a2 :: a1 :: va_rf rb :: st) σ := ow_cVv hX (as := [a1, a2]) d (List.mem_of_getElem? (i := 249) rfl) oM_139 rfl rfl rfl hc hb ⟨by decide, rfl⟩ hk k
theorem oc_RX7_176 (hX : oSem RX7 cc nL kd ret κ kc w0 X) {a1 : Value} {a2 : Value} {rb : Option Nat} {b : Nat} (d : decode cc pc = .ok (.invokevirtual 176, 3)) (hc : (st.map fun v => v.category).sum ≤ 16) (hb : oob σ rb 9 = some b) (hk : kc 136 (va_rf rb :: [a1, a2]) σ (none, u)) (k : X (pc + 3) lv (st) u) : X pc lv (a2 :: a1 :: va_rf rb :: st) σ := ow_cVv hX (as := [a1, a2]) d (List.mem_of_getElem? (i := 250) rfl) oM_136 rfl rfl rfl hc hb ⟨by decide, rfl⟩ hk k
theorem oc_RX7_179 (hX : oSem RX7 cc nL kd ret κ kc w0 X) {a1 : Value} {a2 : Value} {rb : Option Nat} {b : Nat} (d : decode cc pc = .ok (.invokevirtual 179, 3)) (hc : (st.map fun v => v.category).sum ≤ 16) (hb : oob σ rb 9 = some b) (hk : kc 144 (va_rf rb :: [a1, a2]) σ (none, u)) (k : X (pc + 3) lv (st) u) : X pc lv (a2 :: a1 :: va_rf rb :: st) σ := ow_cVv hX (as := [a1, a2]) d (List.mem_of_getElem? (i := 251) rfl) oM_144 rfl rfl rfl hc hb ⟨by decide, rfl⟩ hk k
theorem oc_RX7_182 (hX : oSem RX7 cc nL kd ret κ kc w0 X) {a1 : Value} {a2 : Value} {rb : Option Nat} {b : Nat} (d : decode cc pc = .ok (.invokevirtual 182, 3)) (hc : (st.map fun v => v.category).sum ≤ 16) (hb : oob σ rb 9 = some b) (hk : kc 141 (va_rf rb :: [a1, a2]) σ (none, u)) (k : X (pc + 3) lv (st) u) : X pc lv (a2 :: a1 :: va_rf rb :: st) σ := ow_cVv hX (as := [a1, a2]) d (List.mem_of_getElem? (i := 252) rfl) oM_141 rfl rfl rfl hc hb ⟨by decide, rfl⟩ hk k
theorem oc_RX7_185 (hX : oSem RX7 cc nL kd ret κ kc w0 X) {r : Option Nat} {rb : Option Nat} {b : Nat} (d : decode cc pc = .ok (.invokevirtual 185, 3)) (hc : (st.map fun v => v.category).sum ≤ 16) (hb : oob σ rb 9 = some b) (hk : kc 121 (va_rf rb :: []) σ (some (va_rf r), u)) (k : X (pc + 3) lv (va_rf r :: st) u) : X pc lv (va_rf rb :: st) σ := ow_cVq hX (as := []) d (List.mem_of_getElem? (i := 253) rfl) oM_121 rfl rfl rfl hc hb ⟨by decide, rfl⟩ hk k
theorem oc_RX7_195 (hX : oSem RX7 cc nL kd ret κ kc w0 X) {a1 : Value} {a2 : Value} {r : Option Nat} {rb : Option Nat} {b : Nat} (d : decode cc pc = .ok (.invokevirtual 195, 3)) (hc : (st.map fun v => v.category).sum ≤ 16) (hb : oob σ rb 9 = some b) (hk : kc 123 (va_rf rb :: [a1, a2]) σ (some (va_rf r), u)) (k : X (pc + 3) lv (va_rf r :: st) u) : X pc lv (a2 :: a1 :: va_rf rb :: st) σ := ow_cVq hX (as := [a1, a2]) d (List.mem_of_getElem? (i := 254) rfl) oM_123 rfl rfl rfl hc hb ⟨by decide, rfl⟩ hk k
theorem oc_RX7_205 (hX : oSem RX7 cc nL kd ret κ kc w0 X) {r : Option Nat} {rb : Option Nat} {b : Nat} (d : decode cc pc = .ok (.invokevirtual 205, 3)) (hc : (st.map fun v => v.category).sum ≤ 16) (hb : oob σ rb 9 = some b) (hk : kc 119 (va_rf rb :: []) σ (some (va_rf r), u)) (k : X (pc + 3) lv (va_rf r :: st) u) : X pc lv (va_rf rb :: st) σ := ow_cVq hX (as := []) d (List.mem_of_getElem? (i := 255) rfl) oM_119 rfl rfl rfl hc hb ⟨by decide, rfl⟩ hk k
theorem oc_RX7_215 (hX : oSem RX7 cc nL kd ret κ kc w0 X) {a1 : Value} {r : Option Nat} {rb : Option Nat} {b : Nat} (d : decode cc pc = .ok (.invokevirtual 215, 3)) (hc : (st.map fun v => v.category).sum ≤ 16) (hb : oob σ rb 9 = some b) (hk : kc 142 (va_rf rb :: [a1]) σ (some (va_rf r), u)) (k : X (pc + 3) lv (va_rf r :: st) u) : X pc lv (a1 :: va_rf rb :: st) σ := ow_cVq hX (as := [a1]) d (List.mem_of_getElem? (i := 256) rfl) oM_142 rfl rfl rfl hc hb ⟨by decide, rfl⟩ hk k
theorem oc_RX7_218 (hX : oSem RX7 cc nL kd ret κ kc w0 X) {a1 : Value} {a2 : Value} {rb : Option Nat} {b : Nat} (d : decode cc pc = .ok (.invokevirtual 218, 3)) (hc : (st.map fun v => v.category).sum ≤ 16) (hb : oob σ rb 9 = some b) (hk : kc 143 (va_rf rb :: [a1, a2]) σ (none, u)) (k : X (pc + 3) lv (st) u) : X pc lv (a2 :: a1 :: va_rf rb :: st) σ := ow_cVv hX (as := [a1, a2]) d (List.mem_of_getElem? (i := 257) rfl) oM_143 rfl rfl rfl hc hb ⟨by decide, rfl⟩ hk k
theorem oc_RX7_228 (hX : oSem RX7 cc nL kd ret κ kc w0 X) {a1 : Value} {rb : Option Nat} {b : Nat} (d : decode cc pc = .ok (.invokevirtual 228, 3)) (hc : (st.map fun v => v.category).sum ≤ 16) (hb : oob σ rb 9 = some b) (hk : kc 131 (va_rf rb :: [a1]) σ (none, u)) (k : X (pc + 3) lv (st) u) : X pc lv (a1 :: va_rf rb :: st) σ := ow_cVv hX (as := [a1]) d (List.mem_of_getElem? (i := 258) rfl) oM_131 rfl rfl rfl hc hb ⟨by decide, rfl⟩ hk k
theorem oc_RX7_232 (hX : oSem RX7 cc nL kd ret κ kc w0 X) {a1 : Value} {rb : Option Nat} {b : Nat} (d : decode cc pc = .ok (.invokevirtual 232, 3)) (hc : (st.map fun v => v.category).sum ≤ 16) (hb : oob σ rb 9 = some b) (hk : kc 132 (va_rf rb :: [a1]) σ (none, u)) (k : X (pc + 3) lv (st) u) : X pc lv (a1 :: va_rf rb :: st) σ := ow_cVv hX (as := [a1]) d (List.mem_of_getElem? (i := 259) rfl) oM_132 rfl rfl rfl hc hb ⟨by decide, rfl⟩ hk k
theorem oc_RX7_238 (hX : oSem RX7 cc nL kd ret κ kc w0 X) {r : Int32} {rb : Option Nat} {b : Nat} (d : decode cc pc = .ok (.invokevirtual 238, 3)) (hc : (st.map fun v => v.category).sum ≤ 16) (hb : oob σ rb 1 = some b) (hk : kc 236 (va_rf rb :: []) σ (some (.int r), u)) (k : X (pc + 3) lv (.int r :: st) u) : X pc lv (va_rf rb :: st) σ := ow_cVi hX (as := []) d (List.mem_of_getElem? (i := 260) rfl) oM_236 rfl rfl rfl hc hb ⟨by decide, rfl⟩ hk k
theorem oc_RX7_247 (hX : oSem RX7 cc nL kd ret κ kc w0 X) {a1 : Value} {r : Option Nat} {rb : Option Nat} {b : Nat} (d : decode cc pc = .ok (.invokevirtual 247, 3)) (hc : (st.map fun v => v.category).sum ≤ 16) (hb : oob σ rb 9 = some b) (hk : kc 129 (va_rf rb :: [a1]) σ (some (va_rf r), u)) (k : X (pc + 3) lv (va_rf r :: st) u) : X pc lv (a1 :: va_rf rb :: st) σ := ow_cVq hX (as := [a1]) d (List.mem_of_getElem? (i := 261) rfl) oM_129 rfl rfl rfl hc hb ⟨by decide, rfl⟩ hk k
theorem oc_RX7_252 (hX : oSem RX7 cc nL kd ret κ kc w0 X) {a1 : Value} {rb : Option Nat} {b : Nat} (d : decode cc pc = .ok (.invokevirtual 252, 3)) (hc : (st.map fun v => v.category).sum ≤ 16) (hb : oob σ rb 9 = some b) (hk : kc 133 (va_rf rb :: [a1]) σ (none, u)) (k : X (pc + 3) lv (st) u) : X pc lv (a1 :: va_rf rb :: st) σ := ow_cVv hX (as := [a1]) d (List.mem_of_getElem? (i := 262) rfl) oM_133 rfl rfl rfl hc hb ⟨by decide, rfl⟩ hk k
theorem oc_RX7_264 (hX : oSem RX7 cc nL kd ret κ kc w0 X) {a1 : Value} {a2 : Value} {rb : Option Nat} {b : Nat} (d : decode cc pc = .ok (.invokevirtual 264, 3)) (hc : (st.map fun v => v.category).sum ≤ 16) (hb : oob σ rb 11 = some b) (hk : kc 124 (va_rf rb :: [a1, a2]) σ (none, u)) (k : X (pc + 3) lv (st) u) : X pc lv (a2 :: a1 :: va_rf rb :: st) σ := ow_cVv hX (as := [a1, a2]) d (List.mem_of_getElem? (i := 263) rfl) oM_124 rfl rfl rfl hc hb ⟨by decide, rfl⟩ hk k
theorem oc_RX7_268 (hX : oSem RX7 cc nL kd ret κ kc w0 X) {a1 : Value} {a2 : Value} {rb : Option Nat} {b : Nat} (d : decode cc pc = .ok (.invokevirtual 268, 3)) (hc : (st.map fun v => v.category).sum ≤ 16) (hb : oob σ rb 11 = some b) (hk : kc 10 (va_rf rb :: [a1, a2]) σ (none, u)) (k : X (pc + 3) lv (st) u) : X pc lv (a2 :: a1 :: va_rf rb :: st) σ := ow_cVv hX (as := [a1, a2]) d (List.mem_of_getElem? (i := 264) rfl) oM_10 rfl rfl rfl hc hb ⟨by decide, rfl⟩ hk k
theorem oc_RX7_274 (hX : oSem RX7 cc nL kd ret κ kc w0 X) {a1 : Value} {a2 : Value} {a3 : Value} {r : Option Nat} (d : decode cc pc = .ok (.invokestatic 274, 3)) (hc : (st.map fun v => v.category).sum ≤ 16) (hk : kc 11 [a1, a2, a3] σ (some (va_rf r), u)) (k : X (pc + 3) lv (va_rf r :: st) u) : X pc lv (a3 :: a2 :: a1 :: st) σ := os_callSq hX (as := [a1, a2, a3]) d (List.mem_of_getElem? (i := 265) rfl) oM_11 rfl rfl rfl hc hk k
theorem oc_RX7_278 (hX : oSem RX7 cc nL kd ret κ kc w0 X) {a1 : Value} {r : Int32} (d : decode cc pc = .ok (.invokestatic 278, 3)) (hc : (st.map fun v => v.category).sum ≤ 16) (hk : kc 130 [a1] σ (some (.int r), u)) (k : X (pc + 3) lv (.int r :: st) u) : X pc lv (a1 :: st) σ := os_callSi hX (as := [a1]) d (List.mem_of_getElem? (i := 266) rfl) oM_130 rfl rfl rfl hc hk k
theorem oc_RX7_281 (hX : oSem RX7 cc nL kd ret κ kc w0 X) {a1 : Value} {r : Option Nat} {rb : Option Nat} {b : Nat} (d : decode cc pc = .ok (.invokevirtual 281, 3)) (hc : (st.map fun v => v.category).sum ≤ 16) (hb : oob σ rb 9 = some b) (hk : kc 137 (va_rf rb :: [a1]) σ (some (va_rf r), u)) (k : X (pc + 3) lv (va_rf r :: st) u) : X pc lv (a1 :: va_rf rb :: st) σ := ow_cVq hX (as := [a1]) d (List.mem_of_getElem? (i := 267) rfl) oM_137 rfl rfl rfl hc hb ⟨by decide, rfl⟩ hk k
theorem oc_RX7_287 (hX : oSem RX7 cc nL kd ret κ kc w0 X) {a1 : Value} {r : Option Nat} {rb : Option Nat} {b : Nat} (d : decode cc pc = .ok (.invokevirtual 287, 3)) (hc : (st.map fun v => v.category).sum ≤ 16) (hb : oob σ rb 9 = some b) (hk : kc 134 (va_rf rb :: [a1]) σ (some (va_rf r), u)) (k : X (pc + 3) lv (va_rf r :: st) u) : X pc lv (a1 :: va_rf rb :: st) σ := ow_cVq hX (as := [a1]) d (List.mem_of_getElem? (i := 268) rfl) oM_134 rfl rfl rfl hc hb ⟨by decide, rfl⟩ hk k
theorem oc_RX7_290 (hX : oSem RX7 cc nL kd ret κ kc w0 X) {a1 : Value} {r : Option Nat} {rb : Option Nat} {b : Nat} (d : decode cc pc = .ok (.invokevirtual 290, 3)) (hc : (st.map fun v => v.category).sum ≤ 16) (hb : oob σ rb 9 = some b) (hk : kc 120 (va_rf rb :: [a1]) σ (some (va_rf r), u)) (k : X (pc + 3) lv (va_rf r :: st) u) : X pc lv (a1 :: va_rf rb :: st) σ := ow_cVq hX (as := [a1]) d (List.mem_of_getElem? (i := 269) rfl) oM_120 rfl rfl rfl hc hb ⟨by decide, rfl⟩ hk k
theorem oc_RX7_295 (hX : oSem RX7 cc nL kd ret κ kc w0 X) {r : Int32} {rb : Option Nat} {b : Nat} (d : decode cc pc = .ok (.invokevirtual 295, 3)) (hc : (st.map fun v => v.category).sum ≤ 16) (hb : oob σ rb 11 = some b) (hk : kc 14 (va_rf rb :: []) σ (some (.int r), u)) (k : X (pc + 3) lv (.int r :: st) u) : X pc lv (va_rf rb :: st) σ := ow_cVi hX (as := []) d (List.mem_of_getElem? (i := 270) rfl) oM_14 rfl rfl rfl hc hb ⟨by decide, rfl⟩ hk k
theorem oc_RX7_299 (hX : oSem RX7 cc nL kd ret κ kc w0 X) {a1 : Value} {rb : Option Nat} {b : Nat} (d : decode cc pc = .ok (.invokevirtual 299, 3)) (hc : (st.map fun v => v.category).sum ≤ 16) (hb : oob σ rb 9 = some b) (hk : kc 122 (va_rf rb :: [a1]) σ (none, u)) (k : X (pc + 3) lv (st) u) : X pc lv (a1 :: va_rf rb :: st) σ := ow_cVv hX (as := [a1]) d (List.mem_of_getElem? (i := 271) rfl) oM_122 rfl rfl rfl hc hb ⟨by decide, rfl⟩ hk k
theorem oc_RX7_313 (hX : oSem RX7 cc nL kd ret κ kc w0 X) {a1 : Value} {r : Option Nat} {rb : Option Nat} {b : Nat} (d : decode cc pc = .ok (.invokevirtual 313, 3)) (hc : (st.map fun v => v.category).sum ≤ 16) (hb : oob σ rb 9 = some b) (hk : kc 127 (va_rf rb :: [a1]) σ (some (va_rf r), u)) (k : X (pc + 3) lv (va_rf r :: st) u) : X pc lv (a1 :: va_rf rb :: st) σ := ow_cVq hX (as := [a1]) d (List.mem_of_getElem? (i := 272) rfl) oM_127 rfl rfl rfl hc hb ⟨by decide, rfl⟩ hk k
theorem oc_RX7_316 (hX : oSem RX7 cc nL kd ret κ kc w0 X) {a1 : Value} {r : Option Nat} {rb : Option Nat} {b : Nat} (d : decode cc pc = .ok (.invokevirtual 316, 3)) (hc : (st.map fun v => v.category).sum ≤ 16) (hb : oob σ rb 9 = some b) (hk : kc 126 (va_rf rb :: [a1]) σ (some (va_rf r), u)) (k : X (pc + 3) lv (va_rf r :: st) u) : X pc lv (a1 :: va_rf rb :: st) σ := ow_cVq hX (as := [a1]) d (List.mem_of_getElem? (i := 273) rfl) oM_126 rfl rfl rfl hc hb ⟨by decide, rfl⟩ hk k
theorem oc_RX7_319 (hX : oSem RX7 cc nL kd ret κ kc w0 X) {a1 : Value} {r : Option Nat} {rb : Option Nat} {b : Nat} (d : decode cc pc = .ok (.invokevirtual 319, 3)) (hc : (st.map fun v => v.category).sum ≤ 16) (hb : oob σ rb 9 = some b) (hk : kc 128 (va_rf rb :: [a1]) σ (some (va_rf r), u)) (k : X (pc + 3) lv (va_rf r :: st) u) : X pc lv (a1 :: va_rf rb :: st) σ := ow_cVq hX (as := [a1]) d (List.mem_of_getElem? (i := 274) rfl) oM_128 rfl rfl rfl hc hb ⟨by decide, rfl⟩ hk k
theorem oc_RX7_322 (hX : oSem RX7 cc nL kd ret κ kc w0 X) {a1 : Value} {r : Option Nat} {rb : Option Nat} {b : Nat} (d : decode cc pc = .ok (.invokevirtual 322, 3)) (hc : (st.map fun v => v.category).sum ≤ 16) (hb : oob σ rb 9 = some b) (hk : kc 125 (va_rf rb :: [a1]) σ (some (va_rf r), u)) (k : X (pc + 3) lv (va_rf r :: st) u) : X pc lv (a1 :: va_rf rb :: st) σ := ow_cVq hX (as := [a1]) d (List.mem_of_getElem? (i := 275) rfl) oM_125 rfl rfl rfl hc hb ⟨by decide, rfl⟩ hk k
theorem oc_RX7_326 (hX : oSem RX7 cc nL kd ret κ kc w0 X) {r : Int32} {rb : Option Nat} {b : Nat} (d : decode cc pc = .ok (.invokevirtual 326, 3)) (hc : (st.map fun v => v.category).sum ≤ 16) (hb : oob σ rb 11 = some b) (hk : kc 38 (va_rf rb :: []) σ (some (.int r), u)) (k : X (pc + 3) lv (.int r :: st) u) : X pc lv (va_rf rb :: st) σ := ow_cVi hX (as := []) d (List.mem_of_getElem? (i := 276) rfl) oM_38 rfl rfl rfl hc hb ⟨by decide, rfl⟩ hk k
theorem oc_RX9_23 (hX : oSem RX9 cc nL kd ret κ kc w0 X) {a1 : Value} {rb : Option Nat} {b : Nat} (d : decode cc pc = .ok (.invokevirtual 23, 3)) (hc : (st.map fun v => v.category).sum ≤ 16) (hb : oob σ rb 11 = some b) (hk : kc 9 (va_rf rb :: [a1]) σ (none, u)) (k : X (pc + 3) lv (st) u) : X pc lv (a1 :: va_rf rb :: st) σ := ow_cVv hX (as := [a1]) d (List.mem_of_getElem? (i := 277) rfl) oM_9 rfl rfl rfl hc hb ⟨by decide, rfl⟩ hk k
theorem oc_RX9_33 (hX : oSem RX9 cc nL kd ret κ kc w0 X) {a1 : Value} {a2 : Value} {r : Option Nat} (d : decode cc pc = .ok (.invokestatic 33, 3)) (hc : (st.map fun v => v.category).sum ≤ 16) (hk : kc 238 [a1, a2] σ (some (va_rf r), u)) (k : X (pc + 3) lv (va_rf r :: st) u) : X pc lv (a2 :: a1 :: st) σ := os_callSq hX (as := [a1, a2]) d (List.mem_of_getElem? (i := 278) rfl) oM_238 rfl rfl rfl hc hk k
theorem oc_RX9_39 (hX : oSem RX9 cc nL kd ret κ kc w0 X) {a1 : Value} {a2 : Value} {rb : Option Nat} {b : Nat} (d : decode cc pc = .ok (.invokevirtual 39, 3)) (hc : (st.map fun v => v.category).sum ≤ 16) (hb : oob σ rb 11 = some b) (hk : kc 10 (va_rf rb :: [a1, a2]) σ (none, u)) (k : X (pc + 3) lv (st) u) : X pc lv (a2 :: a1 :: va_rf rb :: st) σ := ow_cVv hX (as := [a1, a2]) d (List.mem_of_getElem? (i := 279) rfl) oM_10 rfl rfl rfl hc hb ⟨by decide, rfl⟩ hk k
theorem oc_RX9_47 (hX : oSem RX9 cc nL kd ret κ kc w0 X) {rb : Option Nat} {b : Nat} (d : decode cc pc = .ok (.invokespecial 47, 3)) (hc : (st.map fun v => v.category).sum ≤ 8) (hb : rb = some b) (hk : kc 8 (va_rf rb :: []) σ (none, u)) (k : X (pc + 3) lv st u) : X pc lv (va_rf rb :: st) σ := ow_cI hX (as := []) d (List.mem_of_getElem? (i := 280) rfl) oM_8 rfl rfl rfl hc hb hk k
theorem oc_RX12_32 (hX : oSem RX12 cc nL kd ret κ kc w0 X) {rb : Option Nat} {b : Nat} (d : decode cc pc = .ok (.invokespecial 32, 3)) (hc : (st.map fun v => v.category).sum ≤ 8) (hb : rb = some b) (hk : kc 70 (va_rf rb :: []) σ (none, u)) (k : X (pc + 3) lv st u) : X pc lv (va_rf rb :: st) σ := ow_cN hX (as := []) d (List.mem_of_getElem? (i := 0) rfl) oM_70 rfl rfl rfl hc hb hk k
theorem oc_RX1_11 (hX : oSem RX1 cc nL kd ret κ kc w0 X) {rb : Option Nat} {b : Nat} (d : decode cc pc = .ok (.invokespecial 11, 3)) (hc : (st.map fun v => v.category).sum ≤ 8) (hb : rb = some b) (hk : kc 69 (va_rf rb :: []) σ (none, u)) (k : X (pc + 3) lv st u) : X pc lv (va_rf rb :: st) σ := ow_cN hX (as := []) d (List.mem_of_getElem? (i := 1) rfl) oM_69 rfl rfl rfl hc hb hk k
theorem oc_RX12_39 (hX : oSem RX12 cc nL kd ret κ kc w0 X) {rb : Option Nat} {b : Nat} (d : decode cc pc = .ok (.invokespecial 39, 3)) (hc : (st.map fun v => v.category).sum ≤ 8) (hb : rb = some b) (hk : kc 71 (va_rf rb :: []) σ (none, u)) (k : X (pc + 3) lv st u) : X pc lv (va_rf rb :: st) σ := ow_cN hX (as := []) d (List.mem_of_getElem? (i := 2) rfl) oM_71 rfl rfl rfl hc hb hk k
theorem oc_RX7_263 (hX : oSem RX7 cc nL kd ret κ kc w0 X) {rb : Option Nat} {b : Nat} (d : decode cc pc = .ok (.invokespecial 263, 3)) (hc : (st.map fun v => v.category).sum ≤ 8) (hb : rb = some b) (hk : kc 8 (va_rf rb :: []) σ (none, u)) (k : X (pc + 3) lv st u) : X pc lv (va_rf rb :: st) σ := ow_cN hX (as := []) d (List.mem_of_getElem? (i := 3) rfl) oM_8 rfl rfl rfl hc hb hk k
theorem oc_RX0_179 (hX : oSem RX0 cc nL kd ret κ kc w0 X) {rb : Option Nat} {b : Nat} (d : decode cc pc = .ok (.invokespecial 179, 3)) (hc : (st.map fun v => v.category).sum ≤ 8) (hb : rb = some b) (hk : kc 8 (va_rf rb :: []) σ (none, u)) (k : X (pc + 3) lv st u) : X pc lv (va_rf rb :: st) σ := ow_cN hX (as := []) d (List.mem_of_getElem? (i := 4) rfl) oM_8 rfl rfl rfl hc hb hk k
end OEN
