/-! WHERE EVERYTHING LIES -/
theorem kd_0 : m_KD[0]? = some (11, 10) := by decide +kernel
theorem kd_1 : m_KD[1]? = some (1, 7) := by decide +kernel
theorem kd_2 : m_KD[2]? = some (2, 3) := by decide +kernel
theorem kd_3 : m_KD[3]? = some (102, 576) := by decide +kernel
theorem kd_4 : m_KD[4]? = some (100, 24) := by decide +kernel
theorem kd_5 : m_KD[5]? = some (100, 24) := by decide +kernel
theorem kd_6 : m_KD[6]? = some (118, 3) := by decide +kernel
theorem kd_7 : m_KD[7]? = some (119, 3) := by decide +kernel
theorem kd_8 : m_KD[8]? = some (100, 600) := by decide +kernel
theorem kd_9 : m_KD[9]? = some (7, 6) := by decide +kernel
theorem kd_10 : m_KD[10]? = some (100, 200) := by decide +kernel
theorem kd_11 : m_KD[11]? = some (100, 200) := by decide +kernel
theorem kd_12 : m_KD[12]? = some (8, 9) := by decide +kernel
theorem kd_13 : m_KD[13]? = some (100, 192) := by decide +kernel
theorem kd_14 : m_KD[14]? = some (100, 192) := by decide +kernel
theorem kd_15 : m_KD[15]? = some (100, 192) := by decide +kernel
theorem kd_16 : m_KD[16]? = some (100, 192) := by decide +kernel
theorem kd_17 : m_KD[17]? = some (100, 192) := by decide +kernel
theorem kd_18 : m_KD[18]? = some (100, 192) := by decide +kernel
theorem kd_19 : m_KD[19]? = some (100, 192) := by decide +kernel
theorem kd_20 : m_KD[20]? = some (103, 8) := by decide +kernel
theorem kd_21 : m_KD[21]? = some (9, 13) := by decide +kernel
theorem kd_22 : m_KD[22]? = some (100, 640) := by decide +kernel
theorem kd_23 : m_KD[23]? = some (100, 200) := by decide +kernel
theorem kd_24 : m_KD[24]? = some (100, 200) := by decide +kernel
theorem kd_25 : m_KD[25]? = some (100, 200) := by decide +kernel
theorem kd_26 : m_KD[26]? = some (100, 40) := by decide +kernel
theorem kd_27 : m_KD[27]? = some (100, 40) := by decide +kernel
theorem kd_28 : m_KD[28]? = some (100, 40) := by decide +kernel
theorem kd_29 : m_KD[29]? = some (100, 40) := by decide +kernel
theorem kd_30 : m_KD[30]? = some (100, 40) := by decide +kernel
theorem kd_31 : m_KD[31]? = some (8, 9) := by decide +kernel
theorem kd_32 : m_KD[32]? = some (100, 192) := by decide +kernel
theorem kd_33 : m_KD[33]? = some (100, 192) := by decide +kernel
theorem kd_34 : m_KD[34]? = some (100, 192) := by decide +kernel
theorem kd_35 : m_KD[35]? = some (100, 192) := by decide +kernel
theorem kd_36 : m_KD[36]? = some (100, 192) := by decide +kernel
theorem kd_37 : m_KD[37]? = some (100, 192) := by decide +kernel
theorem kd_38 : m_KD[38]? = some (100, 192) := by decide +kernel
theorem kd_39 : m_KD[39]? = some (103, 8) := by decide +kernel
theorem kd_40 : m_KD[40]? = some (9, 13) := by decide +kernel
theorem kd_41 : m_KD[41]? = some (100, 640) := by decide +kernel
theorem kd_42 : m_KD[42]? = some (100, 200) := by decide +kernel
theorem kd_43 : m_KD[43]? = some (100, 200) := by decide +kernel
theorem kd_44 : m_KD[44]? = some (100, 200) := by decide +kernel
theorem kd_45 : m_KD[45]? = some (100, 40) := by decide +kernel
theorem kd_46 : m_KD[46]? = some (100, 40) := by decide +kernel
theorem kd_47 : m_KD[47]? = some (100, 40) := by decide +kernel
theorem kd_48 : m_KD[48]? = some (100, 40) := by decide +kernel
theorem kd_49 : m_KD[49]? = some (100, 40) := by decide +kernel
theorem kd_50 : m_KD[50]? = some (8, 9) := by decide +kernel
theorem kd_51 : m_KD[51]? = some (100, 192) := by decide +kernel
theorem kd_52 : m_KD[52]? = some (100, 192) := by decide +kernel
theorem kd_53 : m_KD[53]? = some (100, 192) := by decide +kernel
theorem kd_54 : m_KD[54]? = some (100, 192) := by decide +kernel
theorem kd_55 : m_KD[55]? = some (100, 192) := by decide +kernel
theorem kd_56 : m_KD[56]? = some (100, 192) := by decide +kernel
theorem kd_57 : m_KD[57]? = some (100, 192) := by decide +kernel
theorem kd_58 : m_KD[58]? = some (103, 8) := by decide +kernel
theorem kd_59 : m_KD[59]? = some (9, 13) := by decide +kernel
theorem kd_60 : m_KD[60]? = some (100, 640) := by decide +kernel
theorem kd_61 : m_KD[61]? = some (100, 200) := by decide +kernel
theorem kd_62 : m_KD[62]? = some (100, 200) := by decide +kernel
theorem kd_63 : m_KD[63]? = some (100, 200) := by decide +kernel
theorem kd_64 : m_KD[64]? = some (100, 40) := by decide +kernel
theorem kd_65 : m_KD[65]? = some (100, 40) := by decide +kernel
theorem kd_66 : m_KD[66]? = some (100, 40) := by decide +kernel
theorem kd_67 : m_KD[67]? = some (100, 40) := by decide +kernel
theorem kd_68 : m_KD[68]? = some (100, 40) := by decide +kernel
theorem kd_69 : m_KD[69]? = some (4, 15) := by decide +kernel
theorem kd_70 : m_KD[70]? = some (100, 0) := by decide +kernel
theorem kd_71 : m_KD[71]? = some (100, 200) := by decide +kernel
theorem kd_72 : m_KD[72]? = some (100, 200) := by decide +kernel
theorem kd_73 : m_KD[73]? = some (100, 200) := by decide +kernel
theorem kd_74 : m_KD[74]? = some (100, 200) := by decide +kernel
theorem kd_75 : m_KD[75]? = some (100, 200) := by decide +kernel
theorem kd_76 : m_KD[76]? = some (100, 200) := by decide +kernel
theorem kd_77 : m_KD[77]? = some (100, 200) := by decide +kernel
theorem kd_78 : m_KD[78]? = some (100, 200) := by decide +kernel
theorem kd_79 : m_KD[79]? = some (100, 200) := by decide +kernel
theorem kd_80 : m_KD[80]? = some (2, 3) := by decide +kernel
theorem kd_81 : m_KD[81]? = some (102, 576) := by decide +kernel
theorem kd_82 : m_KD[82]? = some (100, 24) := by decide +kernel
theorem kd_83 : m_KD[83]? = some (100, 24) := by decide +kernel
theorem kd_84 : m_KD[84]? = some (10, 6) := by decide +kernel
theorem kd_85 : m_KD[85]? = some (100, 602) := by decide +kernel
theorem kd_86 : m_KD[86]? = some (100, 200) := by decide +kernel
theorem kd_87 : m_KD[87]? = some (100, 200) := by decide +kernel
theorem kd_88 : m_KD[88]? = some (100, 1200) := by decide +kernel
theorem kd_89 : m_KD[89]? = some (5, 1) := by decide +kernel
theorem kd_90 : m_KD[90]? = some (100, 3872) := by decide +kernel
theorem kd_91 : m_KD[91]? = some (6, 10) := by decide +kernel
theorem kd_92 : m_KD[92]? = some (101, 800) := by decide +kernel
theorem kd_93 : m_KD[93]? = some (101, 800) := by decide +kernel
theorem kd_94 : m_KD[94]? = some (100, 4) := by decide +kernel
theorem kd_95 : m_KD[95]? = some (100, 4) := by decide +kernel
theorem kd_96 : m_KD[96]? = some (0, 4) := by decide +kernel
theorem kd_97 : m_KD[97]? = some (100, 200) := by decide +kernel
theorem kd_98 : m_KD[98]? = some (9, 13) := by decide +kernel
theorem kd_99 : m_KD[99]? = some (100, 640) := by decide +kernel
theorem kd_100 : m_KD[100]? = some (100, 200) := by decide +kernel
theorem kd_101 : m_KD[101]? = some (100, 200) := by decide +kernel
theorem kd_102 : m_KD[102]? = some (100, 200) := by decide +kernel
theorem kd_103 : m_KD[103]? = some (100, 40) := by decide +kernel
theorem kd_104 : m_KD[104]? = some (100, 40) := by decide +kernel
theorem kd_105 : m_KD[105]? = some (100, 40) := by decide +kernel
theorem kd_106 : m_KD[106]? = some (100, 40) := by decide +kernel
theorem kd_107 : m_KD[107]? = some (100, 40) := by decide +kernel
theorem kd_108 : m_KD[108]? = some (100, 300) := by decide +kernel
theorem kd_109 : m_KD[109]? = some (3, 15) := by decide +kernel
theorem kd_110 : m_KD[110]? = some (1, 7) := by decide +kernel
theorem kd_111 : m_KD[111]? = some (2, 3) := by decide +kernel
theorem kd_112 : m_KD[112]? = some (102, 576) := by decide +kernel
theorem kd_113 : m_KD[113]? = some (100, 24) := by decide +kernel
theorem kd_114 : m_KD[114]? = some (100, 24) := by decide +kernel
theorem kd_115 : m_KD[115]? = some (118, 3) := by decide +kernel
theorem kd_116 : m_KD[116]? = some (119, 3) := by decide +kernel
theorem kd_117 : m_KD[117]? = some (100, 600) := by decide +kernel
theorem kd_118 : m_KD[118]? = some (7, 6) := by decide +kernel
theorem kd_119 : m_KD[119]? = some (100, 200) := by decide +kernel
theorem kd_120 : m_KD[120]? = some (100, 200) := by decide +kernel
theorem kd_121 : m_KD[121]? = some (8, 9) := by decide +kernel
theorem kd_122 : m_KD[122]? = some (100, 192) := by decide +kernel
theorem kd_123 : m_KD[123]? = some (100, 192) := by decide +kernel
theorem kd_124 : m_KD[124]? = some (100, 192) := by decide +kernel
theorem kd_125 : m_KD[125]? = some (100, 192) := by decide +kernel
theorem kd_126 : m_KD[126]? = some (100, 192) := by decide +kernel
theorem kd_127 : m_KD[127]? = some (100, 192) := by decide +kernel
theorem kd_128 : m_KD[128]? = some (100, 192) := by decide +kernel
theorem kd_129 : m_KD[129]? = some (103, 8) := by decide +kernel
theorem kd_130 : m_KD[130]? = some (9, 13) := by decide +kernel
theorem kd_131 : m_KD[131]? = some (100, 640) := by decide +kernel
theorem kd_132 : m_KD[132]? = some (100, 200) := by decide +kernel
theorem kd_133 : m_KD[133]? = some (100, 200) := by decide +kernel
theorem kd_134 : m_KD[134]? = some (100, 200) := by decide +kernel
theorem kd_135 : m_KD[135]? = some (100, 40) := by decide +kernel
theorem kd_136 : m_KD[136]? = some (100, 40) := by decide +kernel
theorem kd_137 : m_KD[137]? = some (100, 40) := by decide +kernel
theorem kd_138 : m_KD[138]? = some (100, 40) := by decide +kernel
theorem kd_139 : m_KD[139]? = some (100, 40) := by decide +kernel
theorem kd_140 : m_KD[140]? = some (8, 9) := by decide +kernel
theorem kd_141 : m_KD[141]? = some (100, 192) := by decide +kernel
theorem kd_142 : m_KD[142]? = some (100, 192) := by decide +kernel
theorem kd_143 : m_KD[143]? = some (100, 192) := by decide +kernel
theorem kd_144 : m_KD[144]? = some (100, 192) := by decide +kernel
theorem kd_145 : m_KD[145]? = some (100, 192) := by decide +kernel
theorem kd_146 : m_KD[146]? = some (100, 192) := by decide +kernel
theorem kd_147 : m_KD[147]? = some (100, 192) := by decide +kernel
theorem kd_148 : m_KD[148]? = some (103, 8) := by decide +kernel
theorem kd_149 : m_KD[149]? = some (9, 13) := by decide +kernel
theorem kd_150 : m_KD[150]? = some (100, 640) := by decide +kernel
theorem kd_151 : m_KD[151]? = some (100, 200) := by decide +kernel
theorem kd_152 : m_KD[152]? = some (100, 200) := by decide +kernel
theorem kd_153 : m_KD[153]? = some (100, 200) := by decide +kernel
theorem kd_154 : m_KD[154]? = some (100, 40) := by decide +kernel
theorem kd_155 : m_KD[155]? = some (100, 40) := by decide +kernel
theorem kd_156 : m_KD[156]? = some (100, 40) := by decide +kernel
theorem kd_157 : m_KD[157]? = some (100, 40) := by decide +kernel
theorem kd_158 : m_KD[158]? = some (100, 40) := by decide +kernel
theorem kd_159 : m_KD[159]? = some (8, 9) := by decide +kernel
theorem kd_160 : m_KD[160]? = some (100, 192) := by decide +kernel
theorem kd_161 : m_KD[161]? = some (100, 192) := by decide +kernel
theorem kd_162 : m_KD[162]? = some (100, 192) := by decide +kernel
theorem kd_163 : m_KD[163]? = some (100, 192) := by decide +kernel
theorem kd_164 : m_KD[164]? = some (100, 192) := by decide +kernel
theorem kd_165 : m_KD[165]? = some (100, 192) := by decide +kernel
theorem kd_166 : m_KD[166]? = some (100, 192) := by decide +kernel
theorem kd_167 : m_KD[167]? = some (103, 8) := by decide +kernel
theorem kd_168 : m_KD[168]? = some (9, 13) := by decide +kernel
theorem kd_169 : m_KD[169]? = some (100, 640) := by decide +kernel
theorem kd_170 : m_KD[170]? = some (100, 200) := by decide +kernel
theorem kd_171 : m_KD[171]? = some (100, 200) := by decide +kernel
theorem kd_172 : m_KD[172]? = some (100, 200) := by decide +kernel
theorem kd_173 : m_KD[173]? = some (100, 40) := by decide +kernel
theorem kd_174 : m_KD[174]? = some (100, 40) := by decide +kernel
theorem kd_175 : m_KD[175]? = some (100, 40) := by decide +kernel
theorem kd_176 : m_KD[176]? = some (100, 40) := by decide +kernel
theorem kd_177 : m_KD[177]? = some (100, 40) := by decide +kernel
theorem kd_178 : m_KD[178]? = some (4, 15) := by decide +kernel
theorem kd_179 : m_KD[179]? = some (100, 0) := by decide +kernel
theorem kd_180 : m_KD[180]? = some (100, 200) := by decide +kernel
theorem kd_181 : m_KD[181]? = some (100, 200) := by decide +kernel
theorem kd_182 : m_KD[182]? = some (100, 200) := by decide +kernel
theorem kd_183 : m_KD[183]? = some (100, 200) := by decide +kernel
theorem kd_184 : m_KD[184]? = some (100, 200) := by decide +kernel
theorem kd_185 : m_KD[185]? = some (100, 200) := by decide +kernel
theorem kd_186 : m_KD[186]? = some (100, 200) := by decide +kernel
theorem kd_187 : m_KD[187]? = some (100, 200) := by decide +kernel
theorem kd_188 : m_KD[188]? = some (100, 200) := by decide +kernel
theorem kd_189 : m_KD[189]? = some (100, 3) := by decide +kernel
theorem kd_190 : m_KD[190]? = some (100, 3) := by decide +kernel
theorem kd_191 : m_KD[191]? = some (100, 3) := by decide +kernel
theorem kd_192 : m_KD[192]? = some (100, 3) := by decide +kernel
theorem kd_193 : m_KD[193]? = some (102, 18) := by decide +kernel
theorem kd_194 : m_KD[194]? = some (100, 3) := by decide +kernel
theorem kd_195 : m_KD[195]? = some (100, 600) := by decide +kernel
theorem kd_196 : m_KD[196]? = some (100, 24) := by decide +kernel
theorem kd_197 : m_KD[197]? = some (100, 600) := by decide +kernel
theorem kd_198 : m_KD[198]? = some (102, 192) := by decide +kernel
theorem kd_199 : m_KD[199]? = some (102, 24) := by decide +kernel
theorem kd_200 : m_KD[200]? = some (102, 6) := by decide +kernel
theorem kd_201 : m_KD[201]? = some (101, 24) := by decide +kernel
theorem kd_202 : m_KD[202]? = some (101, 24) := by decide +kernel
theorem kd_203 : m_KD[203]? = some (101, 24) := by decide +kernel
theorem kd_204 : m_KD[204]? = some (101, 24) := by decide +kernel
theorem kd_205 : m_KD[205]? = some (101, 24) := by decide +kernel
theorem kd_206 : m_KD[206]? = some (101, 24) := by decide +kernel
theorem kd_207 : m_KD[207]? = some (100, 24) := by decide +kernel
theorem kd_208 : m_KD[208]? = some (100, 24) := by decide +kernel
theorem kd_209 : m_KD[209]? = some (100, 16) := by decide +kernel
theorem kd_210 : m_KD[210]? = some (100, 4) := by decide +kernel
theorem kd_211 : m_KD[211]? = some (100, 60) := by decide +kernel
theorem kd_212 : m_KD[212]? = some (100, 3) := by decide +kernel
theorem kd_213 : m_KD[213]? = some (101, 60) := by decide +kernel
/-- the references that are made once: cell, place, to where -/
def m_RT : List (Nat × Nat × Nat) := [(96, 0, 97), (96, 1, 98), (96, 2, 108), (1, 0, 2), (1, 1, 6), (1, 2, 7), (1, 3, 8), (1, 4, 69), (1, 5, 9), (110, 0, 111), (110, 1, 115), (110, 2, 116), (110, 3, 117), (110, 4, 178), (110, 5, 118), (2, 0, 3), (2, 1, 4), (2, 2, 5), (80, 0, 81), (80, 1, 82), (80, 2, 83), (111, 0, 112), (111, 1, 113), (111, 2, 114), (109, 0, 110), (109, 1, 189), (109, 2, 190), (109, 3, 191), (109, 4, 192), (109, 5, 193), (109, 6, 194), (109, 9, 195), (109, 10, 196), (109, 11, 197), (109, 12, 198), (109, 14, 199), (69, 4, 71), (69, 5, 72), (69, 7, 73), (69, 8, 74), (69, 9, 75), (69, 10, 76), (69, 11, 77), (69, 12, 78), (69, 13, 79), (178, 4, 180), (178, 5, 181), (178, 7, 182), (178, 8, 183), (178, 9, 184), (178, 10, 185), (178, 11, 186), (178, 12, 187), (178, 13, 188), (89, 0, 90), (91, 0, 92), (91, 1, 93), (91, 2, 94), (91, 3, 95), (9, 0, 10), (9, 1, 11), (118, 0, 119), (118, 1, 120), (12, 0, 13), (12, 1, 14), (12, 2, 15), (12, 3, 16), (12, 4, 17), (12, 5, 18), (12, 6, 19), (12, 7, 20), (31, 0, 32), (31, 1, 33), (31, 2, 34), (31, 3, 35), (31, 4, 36), (31, 5, 37), (31, 6, 38), (31, 7, 39), (50, 0, 51), (50, 1, 52), (50, 2, 53), (50, 3, 54), (50, 4, 55), (50, 5, 56), (50, 6, 57), (50, 7, 58), (121, 0, 122), (121, 1, 123), (121, 2, 124), (121, 3, 125), (121, 4, 126), (121, 5, 127), (121, 6, 128), (121, 7, 129), (140, 0, 141), (140, 1, 142), (140, 2, 143), (140, 3, 144), (140, 4, 145), (140, 5, 146), (140, 6, 147), (140, 7, 148), (159, 0, 160), (159, 1, 161), (159, 2, 162), (159, 3, 163), (159, 4, 164), (159, 5, 165), (159, 6, 166), (159, 7, 167), (21, 0, 22), (21, 2, 23), (21, 3, 24), (21, 4, 25), (21, 6, 26), (21, 7, 27), (21, 8, 28), (21, 9, 29), (21, 11, 30), (40, 0, 41), (40, 2, 42), (40, 3, 43), (40, 4, 44), (40, 6, 45), (40, 7, 46), (40, 8, 47), (40, 9, 48), (40, 11, 49), (59, 0, 60), (59, 2, 61), (59, 3, 62), (59, 4, 63), (59, 6, 64), (59, 7, 65), (59, 8, 66), (59, 9, 67), (59, 11, 68), (98, 0, 99), (98, 2, 100), (98, 3, 101), (98, 4, 102), (98, 6, 103), (98, 7, 104), (98, 8, 105), (98, 9, 106), (98, 11, 107), (130, 0, 131), (130, 2, 132), (130, 3, 133), (130, 4, 134), (130, 6, 135), (130, 7, 136), (130, 8, 137), (130, 9, 138), (130, 11, 139), (149, 0, 150), (149, 2, 151), (149, 3, 152), (149, 4, 153), (149, 6, 154), (149, 7, 155), (149, 8, 156), (149, 9, 157), (149, 11, 158), (168, 0, 169), (168, 2, 170), (168, 3, 171), (168, 4, 172), (168, 6, 173), (168, 7, 174), (168, 8, 175), (168, 9, 176), (168, 11, 177), (84, 0, 85), (84, 1, 86), (84, 2, 87), (84, 4, 88), (0, 0, 1), (0, 1, 80), (0, 2, 84), (0, 3, 89), (0, 4, 91), (0, 5, 96), (0, 6, 109), (0, 7, 200), (6, 0, 12), (6, 1, 31), (6, 2, 50), (7, 0, 21), (7, 1, 40), (7, 2, 59), (115, 0, 121), (115, 1, 140), (115, 2, 159), (116, 0, 130), (116, 1, 149), (116, 2, 168)]
def St (F : MF) : Prop := ∀ x ∈ m_RT, F x.1 x.2.1 = ((x.2.2 : Nat) : Int)
theorem St.at {F : MF} {n k b : Nat} (h : St F) (hm : (n, k, b) ∈ m_RT) : F n k = ((b : Nat) : Int) := h _ hm
theorem u_eq {F : MF} {a i : Nat} {x : Int} : m_up F a i x a i = x := by unfold m_up; rw [if_pos ⟨rfl, rfl⟩]
theorem u_ne {F : MF} {a i b j : Nat} {x : Int} (h : b ≠ a ∨ j ≠ i) : m_up F a i x b j = F b j := by unfold m_up; rw [if_neg (by omega)]
theorem u_at {F : MF} {a i b j : Nat} {x : Int} : m_up F a i x b j = if b = a ∧ j = i then x else F b j := rfl
theorem c_ne {F : MF} {a sp b dp n c j : Nat} (h : c ≠ b) : m_cpy F a sp b dp n c j = F c j := by unfold m_cpy; rw [if_neg (by omega)]
theorem m_kne {a b : Nat} {p q : Nat × Nat} (h1 : m_KD[a]? = some p) (h2 : m_KD[b]? = some q) (h : p ≠ q) : a ≠ b := fun e => by
  subst e
  rw [h1] at h2
  exact h (Option.some.inj h2)
theorem m_RT_obj : m_RT.all (fun x => let k := ((m_KD[x.1]?).getD (100, 0)).1; decide (k < 100 ∨ 104 ≤ k)) = true := by decide +kernel
theorem St.arr {F : MF} {a i kd len : Nat} {v : Int} (h : St F) (hk : m_KD[a]? = some (kd, len)) (h1 : 100 ≤ kd ∧ kd < 104) : St (m_up F a i v) := by
  intro x hx
  have h2 := of_decide_eq_true (List.all_eq_true.mp m_RT_obj x hx)
  rw [u_ne (Or.inl (fun e => by rw [e, hk] at h2; simp at h2; omega))]
  exact h x hx
theorem St.cpy {F : MF} {a sp b dp n kd len : Nat} (h : St F) (hk : m_KD[b]? = some (kd, len)) (h1 : 100 ≤ kd ∧ kd < 104) : St (m_cpy F a sp b dp n) := by
  intro x hx
  have h2 := of_decide_eq_true (List.all_eq_true.mp m_RT_obj x hx)
  rw [c_ne (fun e => by rw [e, hk] at h2; simp at h2; omega)]
  exact h x hx
def m_RTk (ci k : Nat) : Bool := m_RT.all (fun x => !(((m_KD[x.1]?).getD (100, 0)).1 == ci && x.2.1 == k))
theorem St.fld {F : MF} {n k ci sz : Nat} {v : Int} (h : St F) (hk : m_KD[n]? = some (ci, sz)) (h1 : m_RTk ci k = true) : St (m_up F n k v) := by
  intro x hx
  have h2 := List.all_eq_true.mp h1 x hx
  by_cases e : x.1 = n
  · rw [u_ne (Or.inr (fun e2 => by rw [e, hk, e2] at h2; simp at h2))]
    exact h x hx
  · rw [u_ne (Or.inl e)]
    exact h x hx
theorem rk_0_3 : m_RTk 0 3 = true := by decide +kernel
theorem rk_1_6 : m_RTk 1 6 = true := by decide +kernel
theorem rk_3_7 : m_RTk 3 7 = true := by decide +kernel
theorem rk_3_8 : m_RTk 3 8 = true := by decide +kernel
theorem rk_3_13 : m_RTk 3 13 = true := by decide +kernel
theorem rk_4_0 : m_RTk 4 0 = true := by decide +kernel
theorem rk_4_1 : m_RTk 4 1 = true := by decide +kernel
theorem rk_4_2 : m_RTk 4 2 = true := by decide +kernel
theorem rk_4_3 : m_RTk 4 3 = true := by decide +kernel
theorem rk_4_6 : m_RTk 4 6 = true := by decide +kernel
theorem rk_4_14 : m_RTk 4 14 = true := by decide +kernel
theorem rk_6_4 : m_RTk 6 4 = true := by decide +kernel
theorem rk_6_5 : m_RTk 6 5 = true := by decide +kernel
theorem rk_6_6 : m_RTk 6 6 = true := by decide +kernel
theorem rk_6_7 : m_RTk 6 7 = true := by decide +kernel
theorem rk_6_8 : m_RTk 6 8 = true := by decide +kernel
theorem rk_6_9 : m_RTk 6 9 = true := by decide +kernel
theorem rk_7_2 : m_RTk 7 2 = true := by decide +kernel
theorem rk_7_3 : m_RTk 7 3 = true := by decide +kernel
theorem rk_7_4 : m_RTk 7 4 = true := by decide +kernel
theorem rk_7_5 : m_RTk 7 5 = true := by decide +kernel
theorem rk_8_8 : m_RTk 8 8 = true := by decide +kernel
theorem rk_9_1 : m_RTk 9 1 = true := by decide +kernel
theorem rk_9_5 : m_RTk 9 5 = true := by decide +kernel
theorem rk_9_10 : m_RTk 9 10 = true := by decide +kernel
theorem rk_9_12 : m_RTk 9 12 = true := by decide +kernel
theorem rk_10_3 : m_RTk 10 3 = true := by decide +kernel
theorem rk_10_5 : m_RTk 10 5 = true := by decide +kernel
theorem rk_11_8 : m_RTk 11 8 = true := by decide +kernel
theorem rk_11_9 : m_RTk 11 9 = true := by decide +kernel
def m_I0 : List Nat := [96]
theorem ok_0 {n : Nat} (h : n ∈ m_I0) : m_KD[n]? = some (0, 4) := by
  unfold m_I0 at h
  simp only [List.mem_cons, List.not_mem_nil, or_false] at h
  rcases h with rfl
  exact kd_96
def m_I1 : List Nat := [1, 110]
theorem ok_1 {n : Nat} (h : n ∈ m_I1) : m_KD[n]? = some (1, 7) := by
  unfold m_I1 at h
  simp only [List.mem_cons, List.not_mem_nil, or_false] at h
  rcases h with rfl | rfl
  · exact kd_1
  · exact kd_110
def m_I2 : List Nat := [2, 80, 111]
theorem ok_2 {n : Nat} (h : n ∈ m_I2) : m_KD[n]? = some (2, 3) := by
  unfold m_I2 at h
  simp only [List.mem_cons, List.not_mem_nil, or_false] at h
  rcases h with rfl | rfl | rfl
  · exact kd_2
  · exact kd_80
  · exact kd_111
def m_I3 : List Nat := [109]
theorem ok_3 {n : Nat} (h : n ∈ m_I3) : m_KD[n]? = some (3, 15) := by
  unfold m_I3 at h
  simp only [List.mem_cons, List.not_mem_nil, or_false] at h
  rcases h with rfl
  exact kd_109
def m_I4 : List Nat := [69, 178]
theorem ok_4 {n : Nat} (h : n ∈ m_I4) : m_KD[n]? = some (4, 15) := by
  unfold m_I4 at h
  simp only [List.mem_cons, List.not_mem_nil, or_false] at h
  rcases h with rfl | rfl
  · exact kd_69
  · exact kd_178
def m_I5 : List Nat := [89]
theorem ok_5 {n : Nat} (h : n ∈ m_I5) : m_KD[n]? = some (5, 1) := by
  unfold m_I5 at h
  simp only [List.mem_cons, List.not_mem_nil, or_false] at h
  rcases h with rfl
  exact kd_89
def m_I6 : List Nat := [91]
theorem ok_6 {n : Nat} (h : n ∈ m_I6) : m_KD[n]? = some (6, 10) := by
  unfold m_I6 at h
  simp only [List.mem_cons, List.not_mem_nil, or_false] at h
  rcases h with rfl
  exact kd_91
def m_I7 : List Nat := [9, 118]
theorem ok_7 {n : Nat} (h : n ∈ m_I7) : m_KD[n]? = some (7, 6) := by
  unfold m_I7 at h
  simp only [List.mem_cons, List.not_mem_nil, or_false] at h
  rcases h with rfl | rfl
  · exact kd_9
  · exact kd_118
def m_I8 : List Nat := [12, 31, 50, 121, 140, 159]
theorem ok_8 {n : Nat} (h : n ∈ m_I8) : m_KD[n]? = some (8, 9) := by
  unfold m_I8 at h
  simp only [List.mem_cons, List.not_mem_nil, or_false] at h
  rcases h with rfl | rfl | rfl | rfl | rfl | rfl
  · exact kd_12
  · exact kd_31
  · exact kd_50
  · exact kd_121
  · exact kd_140
  · exact kd_159
def m_I9 : List Nat := [21, 40, 59, 98, 130, 149, 168]
theorem ok_9 {n : Nat} (h : n ∈ m_I9) : m_KD[n]? = some (9, 13) := by
  unfold m_I9 at h
  simp only [List.mem_cons, List.not_mem_nil, or_false] at h
  rcases h with rfl | rfl | rfl | rfl | rfl | rfl | rfl
  · exact kd_21
  · exact kd_40
  · exact kd_59
  · exact kd_98
  · exact kd_130
  · exact kd_149
  · exact kd_168
def m_I10 : List Nat := [84]
theorem ok_10 {n : Nat} (h : n ∈ m_I10) : m_KD[n]? = some (10, 6) := by
  unfold m_I10 at h
  simp only [List.mem_cons, List.not_mem_nil, or_false] at h
  rcases h with rfl
  exact kd_84
def m_I11 : List Nat := [0]
theorem ok_11 {n : Nat} (h : n ∈ m_I11) : m_KD[n]? = some (11, 10) := by
  unfold m_I11 at h
  simp only [List.mem_cons, List.not_mem_nil, or_false] at h
  rcases h with rfl
  exact kd_0
theorem sf_0_0 {F : MF} {n : Nat} (hS : St F) (h : n ∈ m_I0) : F n 0 = ((n + 1 : Nat) : Int) := by
  unfold m_I0 at h
  simp only [List.mem_cons, List.not_mem_nil, or_false] at h
  rcases h with rfl
  exact hS.at (b := 97) (by decide +kernel)
theorem ka_0_0 {n : Nat} (h : n ∈ m_I0) : m_KD[n + 1]? = some (100, 200) := by
  unfold m_I0 at h
  simp only [List.mem_cons, List.not_mem_nil, or_false] at h
  rcases h with rfl
  exact kd_97
theorem sf_0_1 {F : MF} {n : Nat} (hS : St F) (h : n ∈ m_I0) : F n 1 = ((n + 2 : Nat) : Int) := by
  unfold m_I0 at h
  simp only [List.mem_cons, List.not_mem_nil, or_false] at h
  rcases h with rfl
  exact hS.at (b := 98) (by decide +kernel)
theorem io_0_1 {n : Nat} (h : n ∈ m_I0) : n + 2 ∈ m_I9 := by
  unfold m_I0 at h
  simp only [List.mem_cons, List.not_mem_nil, or_false] at h
  rcases h with rfl
  decide
theorem sf_0_2 {F : MF} {n : Nat} (hS : St F) (h : n ∈ m_I0) : F n 2 = ((n + 12 : Nat) : Int) := by
  unfold m_I0 at h
  simp only [List.mem_cons, List.not_mem_nil, or_false] at h
  rcases h with rfl
  exact hS.at (b := 108) (by decide +kernel)
theorem ka_0_2 {n : Nat} (h : n ∈ m_I0) : m_KD[n + 12]? = some (100, 300) := by
  unfold m_I0 at h
  simp only [List.mem_cons, List.not_mem_nil, or_false] at h
  rcases h with rfl
  exact kd_108
theorem sf_1_0 {F : MF} {n : Nat} (hS : St F) (h : n ∈ m_I1) : F n 0 = ((n + 1 : Nat) : Int) := by
  unfold m_I1 at h
  simp only [List.mem_cons, List.not_mem_nil, or_false] at h
  rcases h with rfl | rfl
  · exact hS.at (b := 2) (by decide +kernel)
  · exact hS.at (b := 111) (by decide +kernel)
theorem io_1_0 {n : Nat} (h : n ∈ m_I1) : n + 1 ∈ m_I2 := by
  unfold m_I1 at h
  simp only [List.mem_cons, List.not_mem_nil, or_false] at h
  rcases h with rfl | rfl
  · decide
  · decide
theorem sf_1_1 {F : MF} {n : Nat} (hS : St F) (h : n ∈ m_I1) : F n 1 = ((n + 5 : Nat) : Int) := by
  unfold m_I1 at h
  simp only [List.mem_cons, List.not_mem_nil, or_false] at h
  rcases h with rfl | rfl
  · exact hS.at (b := 6) (by decide +kernel)
  · exact hS.at (b := 115) (by decide +kernel)
theorem ka_1_1 {n : Nat} (h : n ∈ m_I1) : m_KD[n + 5]? = some (118, 3) := by
  unfold m_I1 at h
  simp only [List.mem_cons, List.not_mem_nil, or_false] at h
  rcases h with rfl | rfl
  · exact kd_6
  · exact kd_115
theorem sf_1_2 {F : MF} {n : Nat} (hS : St F) (h : n ∈ m_I1) : F n 2 = ((n + 6 : Nat) : Int) := by
  unfold m_I1 at h
  simp only [List.mem_cons, List.not_mem_nil, or_false] at h
  rcases h with rfl | rfl
  · exact hS.at (b := 7) (by decide +kernel)
  · exact hS.at (b := 116) (by decide +kernel)
theorem ka_1_2 {n : Nat} (h : n ∈ m_I1) : m_KD[n + 6]? = some (119, 3) := by
  unfold m_I1 at h
  simp only [List.mem_cons, List.not_mem_nil, or_false] at h
  rcases h with rfl | rfl
  · exact kd_7
  · exact kd_116
theorem sf_1_3 {F : MF} {n : Nat} (hS : St F) (h : n ∈ m_I1) : F n 3 = ((n + 7 : Nat) : Int) := by
  unfold m_I1 at h
  simp only [List.mem_cons, List.not_mem_nil, or_false] at h
  rcases h with rfl | rfl
  · exact hS.at (b := 8) (by decide +kernel)
  · exact hS.at (b := 117) (by decide +kernel)
theorem ka_1_3 {n : Nat} (h : n ∈ m_I1) : m_KD[n + 7]? = some (100, 600) := by
  unfold m_I1 at h
  simp only [List.mem_cons, List.not_mem_nil, or_false] at h
  rcases h with rfl | rfl
  · exact kd_8
  · exact kd_117
theorem sf_1_4 {F : MF} {n : Nat} (hS : St F) (h : n ∈ m_I1) : F n 4 = ((n + 68 : Nat) : Int) := by
  unfold m_I1 at h
  simp only [List.mem_cons, List.not_mem_nil, or_false] at h
  rcases h with rfl | rfl
  · exact hS.at (b := 69) (by decide +kernel)
  · exact hS.at (b := 178) (by decide +kernel)
theorem io_1_4 {n : Nat} (h : n ∈ m_I1) : n + 68 ∈ m_I4 := by
  unfold m_I1 at h
  simp only [List.mem_cons, List.not_mem_nil, or_false] at h
  rcases h with rfl | rfl
  · decide
  · decide
theorem sf_1_5 {F : MF} {n : Nat} (hS : St F) (h : n ∈ m_I1) : F n 5 = ((n + 8 : Nat) : Int) := by
  unfold m_I1 at h
  simp only [List.mem_cons, List.not_mem_nil, or_false] at h
  rcases h with rfl | rfl
  · exact hS.at (b := 9) (by decide +kernel)
  · exact hS.at (b := 118) (by decide +kernel)
theorem io_1_5 {n : Nat} (h : n ∈ m_I1) : n + 8 ∈ m_I7 := by
  unfold m_I1 at h
  simp only [List.mem_cons, List.not_mem_nil, or_false] at h
  rcases h with rfl | rfl
  · decide
  · decide
theorem sf_2_0 {F : MF} {n : Nat} (hS : St F) (h : n ∈ m_I2) : F n 0 = ((n + 1 : Nat) : Int) := by
  unfold m_I2 at h
  simp only [List.mem_cons, List.not_mem_nil, or_false] at h
  rcases h with rfl | rfl | rfl
  · exact hS.at (b := 3) (by decide +kernel)
  · exact hS.at (b := 81) (by decide +kernel)
  · exact hS.at (b := 112) (by decide +kernel)
theorem ka_2_0 {n : Nat} (h : n ∈ m_I2) : m_KD[n + 1]? = some (102, 576) := by
  unfold m_I2 at h
  simp only [List.mem_cons, List.not_mem_nil, or_false] at h
  rcases h with rfl | rfl | rfl
  · exact kd_3
  · exact kd_81
  · exact kd_112
theorem sf_2_1 {F : MF} {n : Nat} (hS : St F) (h : n ∈ m_I2) : F n 1 = ((n + 2 : Nat) : Int) := by
  unfold m_I2 at h
  simp only [List.mem_cons, List.not_mem_nil, or_false] at h
  rcases h with rfl | rfl | rfl
  · exact hS.at (b := 4) (by decide +kernel)
  · exact hS.at (b := 82) (by decide +kernel)
  · exact hS.at (b := 113) (by decide +kernel)
theorem ka_2_1 {n : Nat} (h : n ∈ m_I2) : m_KD[n + 2]? = some (100, 24) := by
  unfold m_I2 at h
  simp only [List.mem_cons, List.not_mem_nil, or_false] at h
  rcases h with rfl | rfl | rfl
  · exact kd_4
  · exact kd_82
  · exact kd_113
theorem sf_2_2 {F : MF} {n : Nat} (hS : St F) (h : n ∈ m_I2) : F n 2 = ((n + 3 : Nat) : Int) := by
  unfold m_I2 at h
  simp only [List.mem_cons, List.not_mem_nil, or_false] at h
  rcases h with rfl | rfl | rfl
  · exact hS.at (b := 5) (by decide +kernel)
  · exact hS.at (b := 83) (by decide +kernel)
  · exact hS.at (b := 114) (by decide +kernel)
theorem ka_2_2 {n : Nat} (h : n ∈ m_I2) : m_KD[n + 3]? = some (100, 24) := by
  unfold m_I2 at h
  simp only [List.mem_cons, List.not_mem_nil, or_false] at h
  rcases h with rfl | rfl | rfl
  · exact kd_5
  · exact kd_83
  · exact kd_114
theorem sf_3_0 {F : MF} {n : Nat} (hS : St F) (h : n ∈ m_I3) : F n 0 = ((n + 1 : Nat) : Int) := by
  unfold m_I3 at h
  simp only [List.mem_cons, List.not_mem_nil, or_false] at h
  rcases h with rfl
  exact hS.at (b := 110) (by decide +kernel)
theorem io_3_0 {n : Nat} (h : n ∈ m_I3) : n + 1 ∈ m_I1 := by
  unfold m_I3 at h
  simp only [List.mem_cons, List.not_mem_nil, or_false] at h
  rcases h with rfl
  decide
theorem sf_3_1 {F : MF} {n : Nat} (hS : St F) (h : n ∈ m_I3) : F n 1 = ((n + 80 : Nat) : Int) := by
  unfold m_I3 at h
  simp only [List.mem_cons, List.not_mem_nil, or_false] at h
  rcases h with rfl
  exact hS.at (b := 189) (by decide +kernel)
theorem ka_3_1 {n : Nat} (h : n ∈ m_I3) : m_KD[n + 80]? = some (100, 3) := by
  unfold m_I3 at h
  simp only [List.mem_cons, List.not_mem_nil, or_false] at h
  rcases h with rfl
  exact kd_189
theorem sf_3_2 {F : MF} {n : Nat} (hS : St F) (h : n ∈ m_I3) : F n 2 = ((n + 81 : Nat) : Int) := by
  unfold m_I3 at h
  simp only [List.mem_cons, List.not_mem_nil, or_false] at h
  rcases h with rfl
  exact hS.at (b := 190) (by decide +kernel)
theorem ka_3_2 {n : Nat} (h : n ∈ m_I3) : m_KD[n + 81]? = some (100, 3) := by
  unfold m_I3 at h
  simp only [List.mem_cons, List.not_mem_nil, or_false] at h
  rcases h with rfl
  exact kd_190
theorem sf_3_3 {F : MF} {n : Nat} (hS : St F) (h : n ∈ m_I3) : F n 3 = ((n + 82 : Nat) : Int) := by
  unfold m_I3 at h
  simp only [List.mem_cons, List.not_mem_nil, or_false] at h
  rcases h with rfl
  exact hS.at (b := 191) (by decide +kernel)
theorem ka_3_3 {n : Nat} (h : n ∈ m_I3) : m_KD[n + 82]? = some (100, 3) := by
  unfold m_I3 at h
  simp only [List.mem_cons, List.not_mem_nil, or_false] at h
  rcases h with rfl
  exact kd_191
theorem sf_3_4 {F : MF} {n : Nat} (hS : St F) (h : n ∈ m_I3) : F n 4 = ((n + 83 : Nat) : Int) := by
  unfold m_I3 at h
  simp only [List.mem_cons, List.not_mem_nil, or_false] at h
  rcases h with rfl
  exact hS.at (b := 192) (by decide +kernel)
theorem ka_3_4 {n : Nat} (h : n ∈ m_I3) : m_KD[n + 83]? = some (100, 3) := by
  unfold m_I3 at h
  simp only [List.mem_cons, List.not_mem_nil, or_false] at h
  rcases h with rfl
  exact kd_192
theorem sf_3_5 {F : MF} {n : Nat} (hS : St F) (h : n ∈ m_I3) : F n 5 = ((n + 84 : Nat) : Int) := by
  unfold m_I3 at h
  simp only [List.mem_cons, List.not_mem_nil, or_false] at h
  rcases h with rfl
  exact hS.at (b := 193) (by decide +kernel)
theorem ka_3_5 {n : Nat} (h : n ∈ m_I3) : m_KD[n + 84]? = some (102, 18) := by
  unfold m_I3 at h
  simp only [List.mem_cons, List.not_mem_nil, or_false] at h
  rcases h with rfl
  exact kd_193
theorem sf_3_6 {F : MF} {n : Nat} (hS : St F) (h : n ∈ m_I3) : F n 6 = ((n + 85 : Nat) : Int) := by
  unfold m_I3 at h
  simp only [List.mem_cons, List.not_mem_nil, or_false] at h
  rcases h with rfl
  exact hS.at (b := 194) (by decide +kernel)
theorem ka_3_6 {n : Nat} (h : n ∈ m_I3) : m_KD[n + 85]? = some (100, 3) := by
  unfold m_I3 at h
  simp only [List.mem_cons, List.not_mem_nil, or_false] at h
  rcases h with rfl
  exact kd_194
theorem sf_3_9 {F : MF} {n : Nat} (hS : St F) (h : n ∈ m_I3) : F n 9 = ((n + 86 : Nat) : Int) := by
  unfold m_I3 at h
  simp only [List.mem_cons, List.not_mem_nil, or_false] at h
  rcases h with rfl
  exact hS.at (b := 195) (by decide +kernel)
theorem ka_3_9 {n : Nat} (h : n ∈ m_I3) : m_KD[n + 86]? = some (100, 600) := by
  unfold m_I3 at h
  simp only [List.mem_cons, List.not_mem_nil, or_false] at h
  rcases h with rfl
  exact kd_195
theorem sf_3_10 {F : MF} {n : Nat} (hS : St F) (h : n ∈ m_I3) : F n 10 = ((n + 87 : Nat) : Int) := by
  unfold m_I3 at h
  simp only [List.mem_cons, List.not_mem_nil, or_false] at h
  rcases h with rfl
  exact hS.at (b := 196) (by decide +kernel)
theorem ka_3_10 {n : Nat} (h : n ∈ m_I3) : m_KD[n + 87]? = some (100, 24) := by
  unfold m_I3 at h
  simp only [List.mem_cons, List.not_mem_nil, or_false] at h
  rcases h with rfl
  exact kd_196
theorem sf_3_11 {F : MF} {n : Nat} (hS : St F) (h : n ∈ m_I3) : F n 11 = ((n + 88 : Nat) : Int) := by
  unfold m_I3 at h
  simp only [List.mem_cons, List.not_mem_nil, or_false] at h
  rcases h with rfl
  exact hS.at (b := 197) (by decide +kernel)
theorem ka_3_11 {n : Nat} (h : n ∈ m_I3) : m_KD[n + 88]? = some (100, 600) := by
  unfold m_I3 at h
  simp only [List.mem_cons, List.not_mem_nil, or_false] at h
  rcases h with rfl
  exact kd_197
theorem sf_3_12 {F : MF} {n : Nat} (hS : St F) (h : n ∈ m_I3) : F n 12 = ((n + 89 : Nat) : Int) := by
  unfold m_I3 at h
  simp only [List.mem_cons, List.not_mem_nil, or_false] at h
  rcases h with rfl
  exact hS.at (b := 198) (by decide +kernel)
theorem ka_3_12 {n : Nat} (h : n ∈ m_I3) : m_KD[n + 89]? = some (102, 192) := by
  unfold m_I3 at h
  simp only [List.mem_cons, List.not_mem_nil, or_false] at h
  rcases h with rfl
  exact kd_198
theorem sf_3_14 {F : MF} {n : Nat} (hS : St F) (h : n ∈ m_I3) : F n 14 = ((n + 90 : Nat) : Int) := by
  unfold m_I3 at h
  simp only [List.mem_cons, List.not_mem_nil, or_false] at h
  rcases h with rfl
  exact hS.at (b := 199) (by decide +kernel)
theorem ka_3_14 {n : Nat} (h : n ∈ m_I3) : m_KD[n + 90]? = some (102, 24) := by
  unfold m_I3 at h
  simp only [List.mem_cons, List.not_mem_nil, or_false] at h
  rcases h with rfl
  exact kd_199
theorem sf_4_4 {F : MF} {n : Nat} (hS : St F) (h : n ∈ m_I4) : F n 4 = ((n + 2 : Nat) : Int) := by
  unfold m_I4 at h
  simp only [List.mem_cons, List.not_mem_nil, or_false] at h
  rcases h with rfl | rfl
  · exact hS.at (b := 71) (by decide +kernel)
  · exact hS.at (b := 180) (by decide +kernel)
theorem ka_4_4 {n : Nat} (h : n ∈ m_I4) : m_KD[n + 2]? = some (100, 200) := by
  unfold m_I4 at h
  simp only [List.mem_cons, List.not_mem_nil, or_false] at h
  rcases h with rfl | rfl
  · exact kd_71
  · exact kd_180
theorem sf_4_5 {F : MF} {n : Nat} (hS : St F) (h : n ∈ m_I4) : F n 5 = ((n + 3 : Nat) : Int) := by
  unfold m_I4 at h
  simp only [List.mem_cons, List.not_mem_nil, or_false] at h
  rcases h with rfl | rfl
  · exact hS.at (b := 72) (by decide +kernel)
  · exact hS.at (b := 181) (by decide +kernel)
theorem ka_4_5 {n : Nat} (h : n ∈ m_I4) : m_KD[n + 3]? = some (100, 200) := by
  unfold m_I4 at h
  simp only [List.mem_cons, List.not_mem_nil, or_false] at h
  rcases h with rfl | rfl
  · exact kd_72
  · exact kd_181
theorem sf_4_7 {F : MF} {n : Nat} (hS : St F) (h : n ∈ m_I4) : F n 7 = ((n + 4 : Nat) : Int) := by
  unfold m_I4 at h
  simp only [List.mem_cons, List.not_mem_nil, or_false] at h
  rcases h with rfl | rfl
  · exact hS.at (b := 73) (by decide +kernel)
  · exact hS.at (b := 182) (by decide +kernel)
theorem ka_4_7 {n : Nat} (h : n ∈ m_I4) : m_KD[n + 4]? = some (100, 200) := by
  unfold m_I4 at h
  simp only [List.mem_cons, List.not_mem_nil, or_false] at h
  rcases h with rfl | rfl
  · exact kd_73
  · exact kd_182
theorem sf_4_8 {F : MF} {n : Nat} (hS : St F) (h : n ∈ m_I4) : F n 8 = ((n + 5 : Nat) : Int) := by
  unfold m_I4 at h
  simp only [List.mem_cons, List.not_mem_nil, or_false] at h
  rcases h with rfl | rfl
  · exact hS.at (b := 74) (by decide +kernel)
  · exact hS.at (b := 183) (by decide +kernel)
theorem ka_4_8 {n : Nat} (h : n ∈ m_I4) : m_KD[n + 5]? = some (100, 200) := by
  unfold m_I4 at h
  simp only [List.mem_cons, List.not_mem_nil, or_false] at h
  rcases h with rfl | rfl
  · exact kd_74
  · exact kd_183
theorem sf_4_9 {F : MF} {n : Nat} (hS : St F) (h : n ∈ m_I4) : F n 9 = ((n + 6 : Nat) : Int) := by
  unfold m_I4 at h
  simp only [List.mem_cons, List.not_mem_nil, or_false] at h
  rcases h with rfl | rfl
  · exact hS.at (b := 75) (by decide +kernel)
  · exact hS.at (b := 184) (by decide +kernel)
theorem ka_4_9 {n : Nat} (h : n ∈ m_I4) : m_KD[n + 6]? = some (100, 200) := by
  unfold m_I4 at h
  simp only [List.mem_cons, List.not_mem_nil, or_false] at h
  rcases h with rfl | rfl
  · exact kd_75
  · exact kd_184
theorem sf_4_10 {F : MF} {n : Nat} (hS : St F) (h : n ∈ m_I4) : F n 10 = ((n + 7 : Nat) : Int) := by
  unfold m_I4 at h
  simp only [List.mem_cons, List.not_mem_nil, or_false] at h
  rcases h with rfl | rfl
  · exact hS.at (b := 76) (by decide +kernel)
  · exact hS.at (b := 185) (by decide +kernel)
theorem ka_4_10 {n : Nat} (h : n ∈ m_I4) : m_KD[n + 7]? = some (100, 200) := by
  unfold m_I4 at h
  simp only [List.mem_cons, List.not_mem_nil, or_false] at h
  rcases h with rfl | rfl
  · exact kd_76
  · exact kd_185
theorem sf_4_11 {F : MF} {n : Nat} (hS : St F) (h : n ∈ m_I4) : F n 11 = ((n + 8 : Nat) : Int) := by
  unfold m_I4 at h
  simp only [List.mem_cons, List.not_mem_nil, or_false] at h
  rcases h with rfl | rfl
  · exact hS.at (b := 77) (by decide +kernel)
  · exact hS.at (b := 186) (by decide +kernel)
theorem ka_4_11 {n : Nat} (h : n ∈ m_I4) : m_KD[n + 8]? = some (100, 200) := by
  unfold m_I4 at h
  simp only [List.mem_cons, List.not_mem_nil, or_false] at h
  rcases h with rfl | rfl
  · exact kd_77
  · exact kd_186
theorem sf_4_12 {F : MF} {n : Nat} (hS : St F) (h : n ∈ m_I4) : F n 12 = ((n + 9 : Nat) : Int) := by
  unfold m_I4 at h
  simp only [List.mem_cons, List.not_mem_nil, or_false] at h
  rcases h with rfl | rfl
  · exact hS.at (b := 78) (by decide +kernel)
  · exact hS.at (b := 187) (by decide +kernel)
theorem ka_4_12 {n : Nat} (h : n ∈ m_I4) : m_KD[n + 9]? = some (100, 200) := by
  unfold m_I4 at h
  simp only [List.mem_cons, List.not_mem_nil, or_false] at h
  rcases h with rfl | rfl
  · exact kd_78
  · exact kd_187
theorem sf_4_13 {F : MF} {n : Nat} (hS : St F) (h : n ∈ m_I4) : F n 13 = ((n + 10 : Nat) : Int) := by
  unfold m_I4 at h
  simp only [List.mem_cons, List.not_mem_nil, or_false] at h
  rcases h with rfl | rfl
  · exact hS.at (b := 79) (by decide +kernel)
  · exact hS.at (b := 188) (by decide +kernel)
theorem ka_4_13 {n : Nat} (h : n ∈ m_I4) : m_KD[n + 10]? = some (100, 200) := by
  unfold m_I4 at h
  simp only [List.mem_cons, List.not_mem_nil, or_false] at h
  rcases h with rfl | rfl
  · exact kd_79
  · exact kd_188
theorem sf_5_0 {F : MF} {n : Nat} (hS : St F) (h : n ∈ m_I5) : F n 0 = ((n + 1 : Nat) : Int) := by
  unfold m_I5 at h
  simp only [List.mem_cons, List.not_mem_nil, or_false] at h
  rcases h with rfl
  exact hS.at (b := 90) (by decide +kernel)
theorem ka_5_0 {n : Nat} (h : n ∈ m_I5) : m_KD[n + 1]? = some (100, 3872) := by
  unfold m_I5 at h
  simp only [List.mem_cons, List.not_mem_nil, or_false] at h
  rcases h with rfl
  exact kd_90
theorem sf_6_0 {F : MF} {n : Nat} (hS : St F) (h : n ∈ m_I6) : F n 0 = ((n + 1 : Nat) : Int) := by
  unfold m_I6 at h
  simp only [List.mem_cons, List.not_mem_nil, or_false] at h
  rcases h with rfl
  exact hS.at (b := 92) (by decide +kernel)
theorem ka_6_0 {n : Nat} (h : n ∈ m_I6) : m_KD[n + 1]? = some (101, 800) := by
  unfold m_I6 at h
  simp only [List.mem_cons, List.not_mem_nil, or_false] at h
  rcases h with rfl
  exact kd_92
theorem sf_6_1 {F : MF} {n : Nat} (hS : St F) (h : n ∈ m_I6) : F n 1 = ((n + 2 : Nat) : Int) := by
  unfold m_I6 at h
  simp only [List.mem_cons, List.not_mem_nil, or_false] at h
  rcases h with rfl
  exact hS.at (b := 93) (by decide +kernel)
theorem ka_6_1 {n : Nat} (h : n ∈ m_I6) : m_KD[n + 2]? = some (101, 800) := by
  unfold m_I6 at h
  simp only [List.mem_cons, List.not_mem_nil, or_false] at h
  rcases h with rfl
  exact kd_93
theorem sf_6_2 {F : MF} {n : Nat} (hS : St F) (h : n ∈ m_I6) : F n 2 = ((n + 3 : Nat) : Int) := by
  unfold m_I6 at h
  simp only [List.mem_cons, List.not_mem_nil, or_false] at h
  rcases h with rfl
  exact hS.at (b := 94) (by decide +kernel)
theorem ka_6_2 {n : Nat} (h : n ∈ m_I6) : m_KD[n + 3]? = some (100, 4) := by
  unfold m_I6 at h
  simp only [List.mem_cons, List.not_mem_nil, or_false] at h
  rcases h with rfl
  exact kd_94
theorem sf_6_3 {F : MF} {n : Nat} (hS : St F) (h : n ∈ m_I6) : F n 3 = ((n + 4 : Nat) : Int) := by
  unfold m_I6 at h
  simp only [List.mem_cons, List.not_mem_nil, or_false] at h
  rcases h with rfl
  exact hS.at (b := 95) (by decide +kernel)
theorem ka_6_3 {n : Nat} (h : n ∈ m_I6) : m_KD[n + 4]? = some (100, 4) := by
  unfold m_I6 at h
  simp only [List.mem_cons, List.not_mem_nil, or_false] at h
  rcases h with rfl
  exact kd_95
theorem sf_7_0 {F : MF} {n : Nat} (hS : St F) (h : n ∈ m_I7) : F n 0 = ((n + 1 : Nat) : Int) := by
  unfold m_I7 at h
  simp only [List.mem_cons, List.not_mem_nil, or_false] at h
  rcases h with rfl | rfl
  · exact hS.at (b := 10) (by decide +kernel)
  · exact hS.at (b := 119) (by decide +kernel)
theorem ka_7_0 {n : Nat} (h : n ∈ m_I7) : m_KD[n + 1]? = some (100, 200) := by
  unfold m_I7 at h
  simp only [List.mem_cons, List.not_mem_nil, or_false] at h
  rcases h with rfl | rfl
  · exact kd_10
  · exact kd_119
theorem sf_7_1 {F : MF} {n : Nat} (hS : St F) (h : n ∈ m_I7) : F n 1 = ((n + 2 : Nat) : Int) := by
  unfold m_I7 at h
  simp only [List.mem_cons, List.not_mem_nil, or_false] at h
  rcases h with rfl | rfl
  · exact hS.at (b := 11) (by decide +kernel)
  · exact hS.at (b := 120) (by decide +kernel)
theorem ka_7_1 {n : Nat} (h : n ∈ m_I7) : m_KD[n + 2]? = some (100, 200) := by
  unfold m_I7 at h
  simp only [List.mem_cons, List.not_mem_nil, or_false] at h
  rcases h with rfl | rfl
  · exact kd_11
  · exact kd_120
theorem sf_8_0 {F : MF} {n : Nat} (hS : St F) (h : n ∈ m_I8) : F n 0 = ((n + 1 : Nat) : Int) := by
  unfold m_I8 at h
  simp only [List.mem_cons, List.not_mem_nil, or_false] at h
  rcases h with rfl | rfl | rfl | rfl | rfl | rfl
  · exact hS.at (b := 13) (by decide +kernel)
  · exact hS.at (b := 32) (by decide +kernel)
  · exact hS.at (b := 51) (by decide +kernel)
  · exact hS.at (b := 122) (by decide +kernel)
  · exact hS.at (b := 141) (by decide +kernel)
  · exact hS.at (b := 160) (by decide +kernel)
theorem ka_8_0 {n : Nat} (h : n ∈ m_I8) : m_KD[n + 1]? = some (100, 192) := by
  unfold m_I8 at h
  simp only [List.mem_cons, List.not_mem_nil, or_false] at h
  rcases h with rfl | rfl | rfl | rfl | rfl | rfl
  · exact kd_13
  · exact kd_32
  · exact kd_51
  · exact kd_122
  · exact kd_141
  · exact kd_160
theorem sf_8_1 {F : MF} {n : Nat} (hS : St F) (h : n ∈ m_I8) : F n 1 = ((n + 2 : Nat) : Int) := by
  unfold m_I8 at h
  simp only [List.mem_cons, List.not_mem_nil, or_false] at h
  rcases h with rfl | rfl | rfl | rfl | rfl | rfl
  · exact hS.at (b := 14) (by decide +kernel)
  · exact hS.at (b := 33) (by decide +kernel)
  · exact hS.at (b := 52) (by decide +kernel)
  · exact hS.at (b := 123) (by decide +kernel)
  · exact hS.at (b := 142) (by decide +kernel)
  · exact hS.at (b := 161) (by decide +kernel)
theorem ka_8_1 {n : Nat} (h : n ∈ m_I8) : m_KD[n + 2]? = some (100, 192) := by
  unfold m_I8 at h
  simp only [List.mem_cons, List.not_mem_nil, or_false] at h
  rcases h with rfl | rfl | rfl | rfl | rfl | rfl
  · exact kd_14
  · exact kd_33
  · exact kd_52
  · exact kd_123
  · exact kd_142
  · exact kd_161
theorem sf_8_2 {F : MF} {n : Nat} (hS : St F) (h : n ∈ m_I8) : F n 2 = ((n + 3 : Nat) : Int) := by
  unfold m_I8 at h
  simp only [List.mem_cons, List.not_mem_nil, or_false] at h
  rcases h with rfl | rfl | rfl | rfl | rfl | rfl
  · exact hS.at (b := 15) (by decide +kernel)
  · exact hS.at (b := 34) (by decide +kernel)
  · exact hS.at (b := 53) (by decide +kernel)
  · exact hS.at (b := 124) (by decide +kernel)
  · exact hS.at (b := 143) (by decide +kernel)
  · exact hS.at (b := 162) (by decide +kernel)
theorem ka_8_2 {n : Nat} (h : n ∈ m_I8) : m_KD[n + 3]? = some (100, 192) := by
  unfold m_I8 at h
  simp only [List.mem_cons, List.not_mem_nil, or_false] at h
  rcases h with rfl | rfl | rfl | rfl | rfl | rfl
  · exact kd_15
  · exact kd_34
  · exact kd_53
  · exact kd_124
  · exact kd_143
  · exact kd_162
theorem sf_8_3 {F : MF} {n : Nat} (hS : St F) (h : n ∈ m_I8) : F n 3 = ((n + 4 : Nat) : Int) := by
  unfold m_I8 at h
  simp only [List.mem_cons, List.not_mem_nil, or_false] at h
  rcases h with rfl | rfl | rfl | rfl | rfl | rfl
  · exact hS.at (b := 16) (by decide +kernel)
  · exact hS.at (b := 35) (by decide +kernel)
  · exact hS.at (b := 54) (by decide +kernel)
  · exact hS.at (b := 125) (by decide +kernel)
  · exact hS.at (b := 144) (by decide +kernel)
  · exact hS.at (b := 163) (by decide +kernel)
theorem ka_8_3 {n : Nat} (h : n ∈ m_I8) : m_KD[n + 4]? = some (100, 192) := by
  unfold m_I8 at h
  simp only [List.mem_cons, List.not_mem_nil, or_false] at h
  rcases h with rfl | rfl | rfl | rfl | rfl | rfl
  · exact kd_16
  · exact kd_35
  · exact kd_54
  · exact kd_125
  · exact kd_144
  · exact kd_163
theorem sf_8_4 {F : MF} {n : Nat} (hS : St F) (h : n ∈ m_I8) : F n 4 = ((n + 5 : Nat) : Int) := by
  unfold m_I8 at h
  simp only [List.mem_cons, List.not_mem_nil, or_false] at h
  rcases h with rfl | rfl | rfl | rfl | rfl | rfl
  · exact hS.at (b := 17) (by decide +kernel)
  · exact hS.at (b := 36) (by decide +kernel)
  · exact hS.at (b := 55) (by decide +kernel)
  · exact hS.at (b := 126) (by decide +kernel)
  · exact hS.at (b := 145) (by decide +kernel)
  · exact hS.at (b := 164) (by decide +kernel)
theorem ka_8_4 {n : Nat} (h : n ∈ m_I8) : m_KD[n + 5]? = some (100, 192) := by
  unfold m_I8 at h
  simp only [List.mem_cons, List.not_mem_nil, or_false] at h
  rcases h with rfl | rfl | rfl | rfl | rfl | rfl
  · exact kd_17
  · exact kd_36
  · exact kd_55
  · exact kd_126
  · exact kd_145
  · exact kd_164
theorem sf_8_5 {F : MF} {n : Nat} (hS : St F) (h : n ∈ m_I8) : F n 5 = ((n + 6 : Nat) : Int) := by
  unfold m_I8 at h
  simp only [List.mem_cons, List.not_mem_nil, or_false] at h
  rcases h with rfl | rfl | rfl | rfl | rfl | rfl
  · exact hS.at (b := 18) (by decide +kernel)
  · exact hS.at (b := 37) (by decide +kernel)
  · exact hS.at (b := 56) (by decide +kernel)
  · exact hS.at (b := 127) (by decide +kernel)
  · exact hS.at (b := 146) (by decide +kernel)
  · exact hS.at (b := 165) (by decide +kernel)
theorem ka_8_5 {n : Nat} (h : n ∈ m_I8) : m_KD[n + 6]? = some (100, 192) := by
  unfold m_I8 at h
  simp only [List.mem_cons, List.not_mem_nil, or_false] at h
  rcases h with rfl | rfl | rfl | rfl | rfl | rfl
  · exact kd_18
  · exact kd_37
  · exact kd_56
  · exact kd_127
  · exact kd_146
  · exact kd_165
theorem sf_8_6 {F : MF} {n : Nat} (hS : St F) (h : n ∈ m_I8) : F n 6 = ((n + 7 : Nat) : Int) := by
  unfold m_I8 at h
  simp only [List.mem_cons, List.not_mem_nil, or_false] at h
  rcases h with rfl | rfl | rfl | rfl | rfl | rfl
  · exact hS.at (b := 19) (by decide +kernel)
  · exact hS.at (b := 38) (by decide +kernel)
  · exact hS.at (b := 57) (by decide +kernel)
  · exact hS.at (b := 128) (by decide +kernel)
  · exact hS.at (b := 147) (by decide +kernel)
  · exact hS.at (b := 166) (by decide +kernel)
theorem ka_8_6 {n : Nat} (h : n ∈ m_I8) : m_KD[n + 7]? = some (100, 192) := by
  unfold m_I8 at h
  simp only [List.mem_cons, List.not_mem_nil, or_false] at h
  rcases h with rfl | rfl | rfl | rfl | rfl | rfl
  · exact kd_19
  · exact kd_38
  · exact kd_57
  · exact kd_128
  · exact kd_147
  · exact kd_166
theorem sf_8_7 {F : MF} {n : Nat} (hS : St F) (h : n ∈ m_I8) : F n 7 = ((n + 8 : Nat) : Int) := by
  unfold m_I8 at h
  simp only [List.mem_cons, List.not_mem_nil, or_false] at h
  rcases h with rfl | rfl | rfl | rfl | rfl | rfl
  · exact hS.at (b := 20) (by decide +kernel)
  · exact hS.at (b := 39) (by decide +kernel)
  · exact hS.at (b := 58) (by decide +kernel)
  · exact hS.at (b := 129) (by decide +kernel)
  · exact hS.at (b := 148) (by decide +kernel)
  · exact hS.at (b := 167) (by decide +kernel)
theorem ka_8_7 {n : Nat} (h : n ∈ m_I8) : m_KD[n + 8]? = some (103, 8) := by
  unfold m_I8 at h
  simp only [List.mem_cons, List.not_mem_nil, or_false] at h
  rcases h with rfl | rfl | rfl | rfl | rfl | rfl
  · exact kd_20
  · exact kd_39
  · exact kd_58
  · exact kd_129
  · exact kd_148
  · exact kd_167
theorem sf_9_0 {F : MF} {n : Nat} (hS : St F) (h : n ∈ m_I9) : F n 0 = ((n + 1 : Nat) : Int) := by
  unfold m_I9 at h
  simp only [List.mem_cons, List.not_mem_nil, or_false] at h
  rcases h with rfl | rfl | rfl | rfl | rfl | rfl | rfl
  · exact hS.at (b := 22) (by decide +kernel)
  · exact hS.at (b := 41) (by decide +kernel)
  · exact hS.at (b := 60) (by decide +kernel)
  · exact hS.at (b := 99) (by decide +kernel)
  · exact hS.at (b := 131) (by decide +kernel)
  · exact hS.at (b := 150) (by decide +kernel)
  · exact hS.at (b := 169) (by decide +kernel)
theorem ka_9_0 {n : Nat} (h : n ∈ m_I9) : m_KD[n + 1]? = some (100, 640) := by
  unfold m_I9 at h
  simp only [List.mem_cons, List.not_mem_nil, or_false] at h
  rcases h with rfl | rfl | rfl | rfl | rfl | rfl | rfl
  · exact kd_22
  · exact kd_41
  · exact kd_60
  · exact kd_99
  · exact kd_131
  · exact kd_150
  · exact kd_169
theorem sf_9_2 {F : MF} {n : Nat} (hS : St F) (h : n ∈ m_I9) : F n 2 = ((n + 2 : Nat) : Int) := by
  unfold m_I9 at h
  simp only [List.mem_cons, List.not_mem_nil, or_false] at h
  rcases h with rfl | rfl | rfl | rfl | rfl | rfl | rfl
  · exact hS.at (b := 23) (by decide +kernel)
  · exact hS.at (b := 42) (by decide +kernel)
  · exact hS.at (b := 61) (by decide +kernel)
  · exact hS.at (b := 100) (by decide +kernel)
  · exact hS.at (b := 132) (by decide +kernel)
  · exact hS.at (b := 151) (by decide +kernel)
  · exact hS.at (b := 170) (by decide +kernel)
theorem ka_9_2 {n : Nat} (h : n ∈ m_I9) : m_KD[n + 2]? = some (100, 200) := by
  unfold m_I9 at h
  simp only [List.mem_cons, List.not_mem_nil, or_false] at h
  rcases h with rfl | rfl | rfl | rfl | rfl | rfl | rfl
  · exact kd_23
  · exact kd_42
  · exact kd_61
  · exact kd_100
  · exact kd_132
  · exact kd_151
  · exact kd_170
theorem sf_9_3 {F : MF} {n : Nat} (hS : St F) (h : n ∈ m_I9) : F n 3 = ((n + 3 : Nat) : Int) := by
  unfold m_I9 at h
  simp only [List.mem_cons, List.not_mem_nil, or_false] at h
  rcases h with rfl | rfl | rfl | rfl | rfl | rfl | rfl
  · exact hS.at (b := 24) (by decide +kernel)
  · exact hS.at (b := 43) (by decide +kernel)
  · exact hS.at (b := 62) (by decide +kernel)
  · exact hS.at (b := 101) (by decide +kernel)
  · exact hS.at (b := 133) (by decide +kernel)
  · exact hS.at (b := 152) (by decide +kernel)
  · exact hS.at (b := 171) (by decide +kernel)
theorem ka_9_3 {n : Nat} (h : n ∈ m_I9) : m_KD[n + 3]? = some (100, 200) := by
  unfold m_I9 at h
  simp only [List.mem_cons, List.not_mem_nil, or_false] at h
  rcases h with rfl | rfl | rfl | rfl | rfl | rfl | rfl
  · exact kd_24
  · exact kd_43
  · exact kd_62
  · exact kd_101
  · exact kd_133
  · exact kd_152
  · exact kd_171
theorem sf_9_4 {F : MF} {n : Nat} (hS : St F) (h : n ∈ m_I9) : F n 4 = ((n + 4 : Nat) : Int) := by
  unfold m_I9 at h
  simp only [List.mem_cons, List.not_mem_nil, or_false] at h
  rcases h with rfl | rfl | rfl | rfl | rfl | rfl | rfl
  · exact hS.at (b := 25) (by decide +kernel)
  · exact hS.at (b := 44) (by decide +kernel)
  · exact hS.at (b := 63) (by decide +kernel)
  · exact hS.at (b := 102) (by decide +kernel)
  · exact hS.at (b := 134) (by decide +kernel)
  · exact hS.at (b := 153) (by decide +kernel)
  · exact hS.at (b := 172) (by decide +kernel)
theorem ka_9_4 {n : Nat} (h : n ∈ m_I9) : m_KD[n + 4]? = some (100, 200) := by
  unfold m_I9 at h
  simp only [List.mem_cons, List.not_mem_nil, or_false] at h
  rcases h with rfl | rfl | rfl | rfl | rfl | rfl | rfl
  · exact kd_25
  · exact kd_44
  · exact kd_63
  · exact kd_102
  · exact kd_134
  · exact kd_153
  · exact kd_172
theorem sf_9_6 {F : MF} {n : Nat} (hS : St F) (h : n ∈ m_I9) : F n 6 = ((n + 5 : Nat) : Int) := by
  unfold m_I9 at h
  simp only [List.mem_cons, List.not_mem_nil, or_false] at h
  rcases h with rfl | rfl | rfl | rfl | rfl | rfl | rfl
  · exact hS.at (b := 26) (by decide +kernel)
  · exact hS.at (b := 45) (by decide +kernel)
  · exact hS.at (b := 64) (by decide +kernel)
  · exact hS.at (b := 103) (by decide +kernel)
  · exact hS.at (b := 135) (by decide +kernel)
  · exact hS.at (b := 154) (by decide +kernel)
  · exact hS.at (b := 173) (by decide +kernel)
theorem ka_9_6 {n : Nat} (h : n ∈ m_I9) : m_KD[n + 5]? = some (100, 40) := by
  unfold m_I9 at h
  simp only [List.mem_cons, List.not_mem_nil, or_false] at h
  rcases h with rfl | rfl | rfl | rfl | rfl | rfl | rfl
  · exact kd_26
  · exact kd_45
  · exact kd_64
  · exact kd_103
  · exact kd_135
  · exact kd_154
  · exact kd_173
theorem sf_9_7 {F : MF} {n : Nat} (hS : St F) (h : n ∈ m_I9) : F n 7 = ((n + 6 : Nat) : Int) := by
  unfold m_I9 at h
  simp only [List.mem_cons, List.not_mem_nil, or_false] at h
  rcases h with rfl | rfl | rfl | rfl | rfl | rfl | rfl
  · exact hS.at (b := 27) (by decide +kernel)
  · exact hS.at (b := 46) (by decide +kernel)
  · exact hS.at (b := 65) (by decide +kernel)
  · exact hS.at (b := 104) (by decide +kernel)
  · exact hS.at (b := 136) (by decide +kernel)
  · exact hS.at (b := 155) (by decide +kernel)
  · exact hS.at (b := 174) (by decide +kernel)
theorem ka_9_7 {n : Nat} (h : n ∈ m_I9) : m_KD[n + 6]? = some (100, 40) := by
  unfold m_I9 at h
  simp only [List.mem_cons, List.not_mem_nil, or_false] at h
  rcases h with rfl | rfl | rfl | rfl | rfl | rfl | rfl
  · exact kd_27
  · exact kd_46
  · exact kd_65
  · exact kd_104
  · exact kd_136
  · exact kd_155
  · exact kd_174
theorem sf_9_8 {F : MF} {n : Nat} (hS : St F) (h : n ∈ m_I9) : F n 8 = ((n + 7 : Nat) : Int) := by
  unfold m_I9 at h
  simp only [List.mem_cons, List.not_mem_nil, or_false] at h
  rcases h with rfl | rfl | rfl | rfl | rfl | rfl | rfl
  · exact hS.at (b := 28) (by decide +kernel)
  · exact hS.at (b := 47) (by decide +kernel)
  · exact hS.at (b := 66) (by decide +kernel)
  · exact hS.at (b := 105) (by decide +kernel)
  · exact hS.at (b := 137) (by decide +kernel)
  · exact hS.at (b := 156) (by decide +kernel)
  · exact hS.at (b := 175) (by decide +kernel)
theorem ka_9_8 {n : Nat} (h : n ∈ m_I9) : m_KD[n + 7]? = some (100, 40) := by
  unfold m_I9 at h
  simp only [List.mem_cons, List.not_mem_nil, or_false] at h
  rcases h with rfl | rfl | rfl | rfl | rfl | rfl | rfl
  · exact kd_28
  · exact kd_47
  · exact kd_66
  · exact kd_105
  · exact kd_137
  · exact kd_156
  · exact kd_175
theorem sf_9_9 {F : MF} {n : Nat} (hS : St F) (h : n ∈ m_I9) : F n 9 = ((n + 8 : Nat) : Int) := by
  unfold m_I9 at h
  simp only [List.mem_cons, List.not_mem_nil, or_false] at h
  rcases h with rfl | rfl | rfl | rfl | rfl | rfl | rfl
  · exact hS.at (b := 29) (by decide +kernel)
  · exact hS.at (b := 48) (by decide +kernel)
  · exact hS.at (b := 67) (by decide +kernel)
  · exact hS.at (b := 106) (by decide +kernel)
  · exact hS.at (b := 138) (by decide +kernel)
  · exact hS.at (b := 157) (by decide +kernel)
  · exact hS.at (b := 176) (by decide +kernel)
theorem ka_9_9 {n : Nat} (h : n ∈ m_I9) : m_KD[n + 8]? = some (100, 40) := by
  unfold m_I9 at h
  simp only [List.mem_cons, List.not_mem_nil, or_false] at h
  rcases h with rfl | rfl | rfl | rfl | rfl | rfl | rfl
  · exact kd_29
  · exact kd_48
  · exact kd_67
  · exact kd_106
  · exact kd_138
  · exact kd_157
  · exact kd_176
theorem sf_9_11 {F : MF} {n : Nat} (hS : St F) (h : n ∈ m_I9) : F n 11 = ((n + 9 : Nat) : Int) := by
  unfold m_I9 at h
  simp only [List.mem_cons, List.not_mem_nil, or_false] at h
  rcases h with rfl | rfl | rfl | rfl | rfl | rfl | rfl
  · exact hS.at (b := 30) (by decide +kernel)
  · exact hS.at (b := 49) (by decide +kernel)
  · exact hS.at (b := 68) (by decide +kernel)
  · exact hS.at (b := 107) (by decide +kernel)
  · exact hS.at (b := 139) (by decide +kernel)
  · exact hS.at (b := 158) (by decide +kernel)
  · exact hS.at (b := 177) (by decide +kernel)
theorem ka_9_11 {n : Nat} (h : n ∈ m_I9) : m_KD[n + 9]? = some (100, 40) := by
  unfold m_I9 at h
  simp only [List.mem_cons, List.not_mem_nil, or_false] at h
  rcases h with rfl | rfl | rfl | rfl | rfl | rfl | rfl
  · exact kd_30
  · exact kd_49
  · exact kd_68
  · exact kd_107
  · exact kd_139
  · exact kd_158
  · exact kd_177
theorem sf_10_0 {F : MF} {n : Nat} (hS : St F) (h : n ∈ m_I10) : F n 0 = ((n + 1 : Nat) : Int) := by
  unfold m_I10 at h
  simp only [List.mem_cons, List.not_mem_nil, or_false] at h
  rcases h with rfl
  exact hS.at (b := 85) (by decide +kernel)
theorem ka_10_0 {n : Nat} (h : n ∈ m_I10) : m_KD[n + 1]? = some (100, 602) := by
  unfold m_I10 at h
  simp only [List.mem_cons, List.not_mem_nil, or_false] at h
  rcases h with rfl
  exact kd_85
theorem sf_10_1 {F : MF} {n : Nat} (hS : St F) (h : n ∈ m_I10) : F n 1 = ((n + 2 : Nat) : Int) := by
  unfold m_I10 at h
  simp only [List.mem_cons, List.not_mem_nil, or_false] at h
  rcases h with rfl
  exact hS.at (b := 86) (by decide +kernel)
theorem ka_10_1 {n : Nat} (h : n ∈ m_I10) : m_KD[n + 2]? = some (100, 200) := by
  unfold m_I10 at h
  simp only [List.mem_cons, List.not_mem_nil, or_false] at h
  rcases h with rfl
  exact kd_86
theorem sf_10_2 {F : MF} {n : Nat} (hS : St F) (h : n ∈ m_I10) : F n 2 = ((n + 3 : Nat) : Int) := by
  unfold m_I10 at h
  simp only [List.mem_cons, List.not_mem_nil, or_false] at h
  rcases h with rfl
  exact hS.at (b := 87) (by decide +kernel)
theorem ka_10_2 {n : Nat} (h : n ∈ m_I10) : m_KD[n + 3]? = some (100, 200) := by
  unfold m_I10 at h
  simp only [List.mem_cons, List.not_mem_nil, or_false] at h
  rcases h with rfl
  exact kd_87
theorem sf_10_4 {F : MF} {n : Nat} (hS : St F) (h : n ∈ m_I10) : F n 4 = ((n + 4 : Nat) : Int) := by
  unfold m_I10 at h
  simp only [List.mem_cons, List.not_mem_nil, or_false] at h
  rcases h with rfl
  exact hS.at (b := 88) (by decide +kernel)
theorem ka_10_4 {n : Nat} (h : n ∈ m_I10) : m_KD[n + 4]? = some (100, 1200) := by
  unfold m_I10 at h
  simp only [List.mem_cons, List.not_mem_nil, or_false] at h
  rcases h with rfl
  exact kd_88
theorem sf_11_0 {F : MF} {n : Nat} (hS : St F) (h : n ∈ m_I11) : F n 0 = ((n + 1 : Nat) : Int) := by
  unfold m_I11 at h
  simp only [List.mem_cons, List.not_mem_nil, or_false] at h
  rcases h with rfl
  exact hS.at (b := 1) (by decide +kernel)
theorem io_11_0 {n : Nat} (h : n ∈ m_I11) : n + 1 ∈ m_I1 := by
  unfold m_I11 at h
  simp only [List.mem_cons, List.not_mem_nil, or_false] at h
  rcases h with rfl
  decide
theorem sf_11_1 {F : MF} {n : Nat} (hS : St F) (h : n ∈ m_I11) : F n 1 = ((n + 80 : Nat) : Int) := by
  unfold m_I11 at h
  simp only [List.mem_cons, List.not_mem_nil, or_false] at h
  rcases h with rfl
  exact hS.at (b := 80) (by decide +kernel)
theorem io_11_1 {n : Nat} (h : n ∈ m_I11) : n + 80 ∈ m_I2 := by
  unfold m_I11 at h
  simp only [List.mem_cons, List.not_mem_nil, or_false] at h
  rcases h with rfl
  decide
theorem sf_11_2 {F : MF} {n : Nat} (hS : St F) (h : n ∈ m_I11) : F n 2 = ((n + 84 : Nat) : Int) := by
  unfold m_I11 at h
  simp only [List.mem_cons, List.not_mem_nil, or_false] at h
  rcases h with rfl
  exact hS.at (b := 84) (by decide +kernel)
theorem io_11_2 {n : Nat} (h : n ∈ m_I11) : n + 84 ∈ m_I10 := by
  unfold m_I11 at h
  simp only [List.mem_cons, List.not_mem_nil, or_false] at h
  rcases h with rfl
  decide
theorem sf_11_3 {F : MF} {n : Nat} (hS : St F) (h : n ∈ m_I11) : F n 3 = ((n + 89 : Nat) : Int) := by
  unfold m_I11 at h
  simp only [List.mem_cons, List.not_mem_nil, or_false] at h
  rcases h with rfl
  exact hS.at (b := 89) (by decide +kernel)
theorem io_11_3 {n : Nat} (h : n ∈ m_I11) : n + 89 ∈ m_I5 := by
  unfold m_I11 at h
  simp only [List.mem_cons, List.not_mem_nil, or_false] at h
  rcases h with rfl
  decide
theorem sf_11_4 {F : MF} {n : Nat} (hS : St F) (h : n ∈ m_I11) : F n 4 = ((n + 91 : Nat) : Int) := by
  unfold m_I11 at h
  simp only [List.mem_cons, List.not_mem_nil, or_false] at h
  rcases h with rfl
  exact hS.at (b := 91) (by decide +kernel)
theorem io_11_4 {n : Nat} (h : n ∈ m_I11) : n + 91 ∈ m_I6 := by
  unfold m_I11 at h
  simp only [List.mem_cons, List.not_mem_nil, or_false] at h
  rcases h with rfl
  decide
theorem sf_11_5 {F : MF} {n : Nat} (hS : St F) (h : n ∈ m_I11) : F n 5 = ((n + 96 : Nat) : Int) := by
  unfold m_I11 at h
  simp only [List.mem_cons, List.not_mem_nil, or_false] at h
  rcases h with rfl
  exact hS.at (b := 96) (by decide +kernel)
theorem io_11_5 {n : Nat} (h : n ∈ m_I11) : n + 96 ∈ m_I0 := by
  unfold m_I11 at h
  simp only [List.mem_cons, List.not_mem_nil, or_false] at h
  rcases h with rfl
  decide
theorem sf_11_6 {F : MF} {n : Nat} (hS : St F) (h : n ∈ m_I11) : F n 6 = ((n + 109 : Nat) : Int) := by
  unfold m_I11 at h
  simp only [List.mem_cons, List.not_mem_nil, or_false] at h
  rcases h with rfl
  exact hS.at (b := 109) (by decide +kernel)
theorem io_11_6 {n : Nat} (h : n ∈ m_I11) : n + 109 ∈ m_I3 := by
  unfold m_I11 at h
  simp only [List.mem_cons, List.not_mem_nil, or_false] at h
  rcases h with rfl
  decide
theorem sf_11_7 {F : MF} {n : Nat} (hS : St F) (h : n ∈ m_I11) : F n 7 = ((n + 200 : Nat) : Int) := by
  unfold m_I11 at h
  simp only [List.mem_cons, List.not_mem_nil, or_false] at h
  rcases h with rfl
  exact hS.at (b := 200) (by decide +kernel)
theorem ka_11_7 {n : Nat} (h : n ∈ m_I11) : m_KD[n + 200]? = some (102, 6) := by
  unfold m_I11 at h
  simp only [List.mem_cons, List.not_mem_nil, or_false] at h
  rcases h with rfl
  exact kd_200
theorem sr_rows {F : MF} {n : Nat} {i : Int} (hS : St F) (h : n ∈ m_I1) (hi : 0 ≤ i ∧ i < 3) : F (n + 5) i.toNat = ((n + (11 + 19 * i.toNat) : Nat) : Int) := by
  obtain ⟨k, rfl⟩ := Int.eq_ofNat_of_zero_le hi.1
  have hk : k < 3 := by omega
  rw [Int.toNat_natCast]
  unfold m_I1 at h
  simp only [List.mem_cons, List.not_mem_nil, or_false] at h
  have h3 : k = 0 ∨ k = 1 ∨ k = 2 := by omega
  rcases h with rfl | rfl <;> rcases h3 with rfl | rfl | rfl
  · exact hS.at (b := 12) (by decide +kernel)
  · exact hS.at (b := 31) (by decide +kernel)
  · exact hS.at (b := 50) (by decide +kernel)
  · exact hS.at (b := 121) (by decide +kernel)
  · exact hS.at (b := 140) (by decide +kernel)
  · exact hS.at (b := 159) (by decide +kernel)
theorem io_rows {n : Nat} {i : Int} (h : n ∈ m_I1) (hi : 0 ≤ i ∧ i < 3) : n + (11 + 19 * i.toNat) ∈ m_I8 := by
  obtain ⟨k, rfl⟩ := Int.eq_ofNat_of_zero_le hi.1
  have hk : k < 3 := by omega
  rw [Int.toNat_natCast]
  unfold m_I1 at h
  simp only [List.mem_cons, List.not_mem_nil, or_false] at h
  have h3 : k = 0 ∨ k = 1 ∨ k = 2 := by omega
  rcases h with rfl | rfl <;> rcases h3 with rfl | rfl | rfl <;> decide
theorem sr_trees {F : MF} {n : Nat} {i : Int} (hS : St F) (h : n ∈ m_I1) (hi : 0 ≤ i ∧ i < 3) : F (n + 6) i.toNat = ((n + (20 + 19 * i.toNat) : Nat) : Int) := by
  obtain ⟨k, rfl⟩ := Int.eq_ofNat_of_zero_le hi.1
  have hk : k < 3 := by omega
  rw [Int.toNat_natCast]
  unfold m_I1 at h
  simp only [List.mem_cons, List.not_mem_nil, or_false] at h
  have h3 : k = 0 ∨ k = 1 ∨ k = 2 := by omega
  rcases h with rfl | rfl <;> rcases h3 with rfl | rfl | rfl
  · exact hS.at (b := 21) (by decide +kernel)
  · exact hS.at (b := 40) (by decide +kernel)
  · exact hS.at (b := 59) (by decide +kernel)
  · exact hS.at (b := 130) (by decide +kernel)
  · exact hS.at (b := 149) (by decide +kernel)
  · exact hS.at (b := 168) (by decide +kernel)
theorem io_trees {n : Nat} {i : Int} (h : n ∈ m_I1) (hi : 0 ≤ i ∧ i < 3) : n + (20 + 19 * i.toNat) ∈ m_I9 := by
  obtain ⟨k, rfl⟩ := Int.eq_ofNat_of_zero_le hi.1
  have hk : k < 3 := by omega
  rw [Int.toNat_natCast]
  unfold m_I1 at h
  simp only [List.mem_cons, List.not_mem_nil, or_false] at h
  have h3 : k = 0 ∨ k = 1 ∨ k = 2 := by omega
  rcases h with rfl | rfl <;> rcases h3 with rfl | rfl | rfl <;> decide
/-! WHAT A METHOD GIVES -/
def m_no : Nat → MF → Prop := fun _ _ => False
def OI (R : Int → MF → Prop) (T : Nat → MF → Prop) (o : Nat × List MV) (F : MF) : Prop := St F ∧ ((∃ r, o = (0, [(0, r)]) ∧ R r F) ∨ ∃ e, o = (e + 1, []) ∧ T e F)
def OL (R : Int → MF → Prop) (T : Nat → MF → Prop) (o : Nat × List MV) (F : MF) : Prop := St F ∧ ((∃ r, o = (0, [(1, r)]) ∧ R r F) ∨ ∃ e, o = (e + 1, []) ∧ T e F)
def OS (R : Int → MF → Prop) (T : Nat → MF → Prop) (o : Nat × List MV) (F : MF) : Prop := St F ∧ ((∃ r, o = (0, [(5, r)]) ∧ R r F) ∨ ∃ e, o = (e + 1, []) ∧ T e F)
def OR (R : Nat → MF → Prop) (T : Nat → MF → Prop) (o : Nat × List MV) (F : MF) : Prop := St F ∧ ((∃ r, o = (0, [m_r r]) ∧ R r F) ∨ ∃ e, o = (e + 1, []) ∧ T e F)
def OV (R : MF → Prop) (T : Nat → MF → Prop) (o : Nat × List MV) (F : MF) : Prop := St F ∧ ((o = (0, []) ∧ R F) ∨ ∃ e, o = (e + 1, []) ∧ T e F)
def EvI (M pc : Nat) (ls : ML) (st : List MV) (F : MF) (R : Int → MF → Prop) (T : Nat → MF → Prop) : Prop := Ev M pc ls st F (OI R T)
def EvL (M pc : Nat) (ls : ML) (st : List MV) (F : MF) (R : Int → MF → Prop) (T : Nat → MF → Prop) : Prop := Ev M pc ls st F (OL R T)
def EvS (M pc : Nat) (ls : ML) (st : List MV) (F : MF) (R : Int → MF → Prop) (T : Nat → MF → Prop) : Prop := Ev M pc ls st F (OS R T)
def EvR (M pc : Nat) (ls : ML) (st : List MV) (F : MF) (R : Nat → MF → Prop) (T : Nat → MF → Prop) : Prop := Ev M pc ls st F (OR R T)
def EvV (M pc : Nat) (ls : ML) (st : List MV) (F : MF) (R : MF → Prop) (T : Nat → MF → Prop) : Prop := Ev M pc ls st F (OV R T)
def CaI (N : Nat) (xs : List MV) (F : MF) (R : Int → MF → Prop) (T : Nat → MF → Prop) : Prop := EvI N 0 (m_ini (m_mls.getD N 0) xs) [] F R T
def CaL (N : Nat) (xs : List MV) (F : MF) (R : Int → MF → Prop) (T : Nat → MF → Prop) : Prop := EvL N 0 (m_ini (m_mls.getD N 0) xs) [] F R T
def CaS (N : Nat) (xs : List MV) (F : MF) (R : Int → MF → Prop) (T : Nat → MF → Prop) : Prop := EvS N 0 (m_ini (m_mls.getD N 0) xs) [] F R T
def CaR (N : Nat) (xs : List MV) (F : MF) (R : Nat → MF → Prop) (T : Nat → MF → Prop) : Prop := EvR N 0 (m_ini (m_mls.getD N 0) xs) [] F R T
def CaV (N : Nat) (xs : List MV) (F : MF) (R : MF → Prop) (T : Nat → MF → Prop) : Prop := EvV N 0 (m_ini (m_mls.getD N 0) xs) [] F R T
theorem EvI.mono {M pc : Nat} {ls : ML} {st : List MV} {F : MF} {R R' : Int → MF → Prop} {T T' : Nat → MF → Prop} (h : EvI M pc ls st F R T) (hR : ∀ r F', St F' → R r F' → R' r F') (hT : ∀ e F', St F' → T e F' → T' e F') : EvI M pc ls st F R' T' := Ev.mono h (fun o F' => by
  rintro ⟨hS, ⟨r, h1, h2⟩ | ⟨e, h1, h2⟩⟩
  · exact ⟨hS, Or.inl ⟨r, h1, hR r F' hS h2⟩⟩
  · exact ⟨hS, Or.inr ⟨e, h1, hT e F' hS h2⟩⟩)
theorem CaI.mono {N : Nat} {xs : List MV} {F : MF} {R R' : Int → MF → Prop} {T T' : Nat → MF → Prop} (h : CaI N xs F R T) (hR : ∀ r F', St F' → R r F' → R' r F') (hT : ∀ e F', St F' → T e F' → T' e F') : CaI N xs F R' T' := EvI.mono h hR hT
theorem CaI.on {N : Nat} {xs : List MV} {F : MF} {R R' : Int → MF → Prop} {T : Nat → MF → Prop} (h : CaI N xs F R m_no) (hR : ∀ r F', St F' → R r F' → R' r F') : CaI N xs F R' T := EvI.mono h hR (fun _ _ _ h => h.elim)
theorem EvL.mono {M pc : Nat} {ls : ML} {st : List MV} {F : MF} {R R' : Int → MF → Prop} {T T' : Nat → MF → Prop} (h : EvL M pc ls st F R T) (hR : ∀ r F', St F' → R r F' → R' r F') (hT : ∀ e F', St F' → T e F' → T' e F') : EvL M pc ls st F R' T' := Ev.mono h (fun o F' => by
  rintro ⟨hS, ⟨r, h1, h2⟩ | ⟨e, h1, h2⟩⟩
  · exact ⟨hS, Or.inl ⟨r, h1, hR r F' hS h2⟩⟩
  · exact ⟨hS, Or.inr ⟨e, h1, hT e F' hS h2⟩⟩)
theorem CaL.mono {N : Nat} {xs : List MV} {F : MF} {R R' : Int → MF → Prop} {T T' : Nat → MF → Prop} (h : CaL N xs F R T) (hR : ∀ r F', St F' → R r F' → R' r F') (hT : ∀ e F', St F' → T e F' → T' e F') : CaL N xs F R' T' := EvL.mono h hR hT
theorem CaL.on {N : Nat} {xs : List MV} {F : MF} {R R' : Int → MF → Prop} {T : Nat → MF → Prop} (h : CaL N xs F R m_no) (hR : ∀ r F', St F' → R r F' → R' r F') : CaL N xs F R' T := EvL.mono h hR (fun _ _ _ h => h.elim)
theorem EvS.mono {M pc : Nat} {ls : ML} {st : List MV} {F : MF} {R R' : Int → MF → Prop} {T T' : Nat → MF → Prop} (h : EvS M pc ls st F R T) (hR : ∀ r F', St F' → R r F' → R' r F') (hT : ∀ e F', St F' → T e F' → T' e F') : EvS M pc ls st F R' T' := Ev.mono h (fun o F' => by
  rintro ⟨hS, ⟨r, h1, h2⟩ | ⟨e, h1, h2⟩⟩
  · exact ⟨hS, Or.inl ⟨r, h1, hR r F' hS h2⟩⟩
  · exact ⟨hS, Or.inr ⟨e, h1, hT e F' hS h2⟩⟩)
theorem CaS.mono {N : Nat} {xs : List MV} {F : MF} {R R' : Int → MF → Prop} {T T' : Nat → MF → Prop} (h : CaS N xs F R T) (hR : ∀ r F', St F' → R r F' → R' r F') (hT : ∀ e F', St F' → T e F' → T' e F') : CaS N xs F R' T' := EvS.mono h hR hT
theorem CaS.on {N : Nat} {xs : List MV} {F : MF} {R R' : Int → MF → Prop} {T : Nat → MF → Prop} (h : CaS N xs F R m_no) (hR : ∀ r F', St F' → R r F' → R' r F') : CaS N xs F R' T := EvS.mono h hR (fun _ _ _ h => h.elim)
theorem EvR.mono {M pc : Nat} {ls : ML} {st : List MV} {F : MF} {R R' : Nat → MF → Prop} {T T' : Nat → MF → Prop} (h : EvR M pc ls st F R T) (hR : ∀ r F', St F' → R r F' → R' r F') (hT : ∀ e F', St F' → T e F' → T' e F') : EvR M pc ls st F R' T' := Ev.mono h (fun o F' => by
  rintro ⟨hS, ⟨r, h1, h2⟩ | ⟨e, h1, h2⟩⟩
  · exact ⟨hS, Or.inl ⟨r, h1, hR r F' hS h2⟩⟩
  · exact ⟨hS, Or.inr ⟨e, h1, hT e F' hS h2⟩⟩)
theorem CaR.mono {N : Nat} {xs : List MV} {F : MF} {R R' : Nat → MF → Prop} {T T' : Nat → MF → Prop} (h : CaR N xs F R T) (hR : ∀ r F', St F' → R r F' → R' r F') (hT : ∀ e F', St F' → T e F' → T' e F') : CaR N xs F R' T' := EvR.mono h hR hT
theorem CaR.on {N : Nat} {xs : List MV} {F : MF} {R R' : Nat → MF → Prop} {T : Nat → MF → Prop} (h : CaR N xs F R m_no) (hR : ∀ r F', St F' → R r F' → R' r F') : CaR N xs F R' T := EvR.mono h hR (fun _ _ _ h => h.elim)
theorem EvV.mono {M pc : Nat} {ls : ML} {st : List MV} {F : MF} {R R' : MF → Prop} {T T' : Nat → MF → Prop} (h : EvV M pc ls st F R T) (hR : ∀ F', St F' → R F' → R' F') (hT : ∀ e F', St F' → T e F' → T' e F') : EvV M pc ls st F R' T' := Ev.mono h (fun o F' => by
  rintro ⟨hS, ⟨h1, h2⟩ | ⟨e, h1, h2⟩⟩
  · exact ⟨hS, Or.inl ⟨h1, hR F' hS h2⟩⟩
  · exact ⟨hS, Or.inr ⟨e, h1, hT e F' hS h2⟩⟩)
theorem CaV.mono {N : Nat} {xs : List MV} {F : MF} {R R' : MF → Prop} {T T' : Nat → MF → Prop} (h : CaV N xs F R T) (hR : ∀ F', St F' → R F' → R' F') (hT : ∀ e F', St F' → T e F' → T' e F') : CaV N xs F R' T' := EvV.mono h hR hT
theorem CaV.on {N : Nat} {xs : List MV} {F : MF} {R R' : MF → Prop} {T : Nat → MF → Prop} (h : CaV N xs F R m_no) (hR : ∀ F', St F' → R F' → R' F') : CaV N xs F R' T := EvV.mono h hR (fun _ _ _ h => h.elim)
theorem Lw.nil : Lw [] [] := ⟨rfl, fun i v h => h⟩
theorem Lw.cons {x : Option MV} {l l' : ML} (h : Lw l l') : Lw (x :: l) (x :: l') := ⟨by rw [List.length_cons, List.length_cons, h.1], fun i v hi => by
  cases i with
  | zero => exact hi
  | succ i => exact h.2 i v hi⟩
theorem Lw.none {x : Option MV} {l l' : ML} (h : Lw l l') : Lw (none :: l) (x :: l') := ⟨by rw [List.length_cons, List.length_cons, h.1], fun i v hi => by
  cases i with
  | zero => cases hi
  | succ i => exact h.2 i v hi⟩
