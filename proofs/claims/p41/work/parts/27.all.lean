/-! ALL ROWS, ALL WORDS -/
theorem m_ick_of {M : Nat} {tb : List (Option (Instr × LK))} (h : m_tck M tb = true) (pc : Nat) (i : Instr) (q : LK) (ht : tb[pc]? = some (some (i, q))) : m_ick M pc i q = true := by
  unfold m_tck at h
  rw [List.all_eq_true] at h
  exact h (some (i, q), pc) (List.mem_zipIdx_iff_getElem?.mpr ht)
theorem m_pick {n : Nat} {f : Nat → Bool} (h : (List.range n).all f = true) (k : Nat) (hk : k < n) : f k = true := List.all_eq_true.mp h k (List.mem_range.mpr hk)
theorem m_g0 (M : Nat) (h0 : 0 ≤ M) (h : M < 20) (hz : M ≠ 420) : m_tck M (m_tb M) = true := by
  have h1 : M = 0 ∨ M = 1 ∨ M = 2 ∨ M = 3 ∨ M = 4 ∨ M = 5 ∨ M = 6 ∨ M = 7 ∨ M = 8 ∨ M = 9 ∨ M = 10 ∨ M = 11 ∨ M = 12 ∨ M = 13 ∨ M = 14 ∨ M = 15 ∨ M = 16 ∨ M = 17 ∨ M = 18 ∨ M = 19 := by omega
  rcases h1 with rfl | rfl | rfl | rfl | rfl | rfl | rfl | rfl | rfl | rfl | rfl | rfl | rfl | rfl | rfl | rfl | rfl | rfl | rfl | rfl
  · exact m_ck0
  · exact m_ck1
  · exact m_ck2
  · exact m_ck3
  · exact m_ck4
  · exact m_ck5
  · exact m_ck6
  · exact m_ck7
  · exact m_ck8
  · exact m_ck9
  · exact m_ck10
  · exact m_ck11
  · exact m_ck12
  · exact m_ck13
  · exact m_ck14
  · exact m_ck15
  · exact m_ck16
  · exact m_ck17
  · exact m_ck18
  · exact m_ck19
theorem m_g1 (M : Nat) (h0 : 20 ≤ M) (h : M < 40) (hz : M ≠ 420) : m_tck M (m_tb M) = true := by
  have h1 : M = 20 ∨ M = 21 ∨ M = 22 ∨ M = 23 ∨ M = 24 ∨ M = 25 ∨ M = 26 ∨ M = 27 ∨ M = 28 ∨ M = 29 ∨ M = 30 ∨ M = 31 ∨ M = 32 ∨ M = 33 ∨ M = 34 ∨ M = 35 ∨ M = 36 ∨ M = 37 ∨ M = 38 ∨ M = 39 := by omega
  rcases h1 with rfl | rfl | rfl | rfl | rfl | rfl | rfl | rfl | rfl | rfl | rfl | rfl | rfl | rfl | rfl | rfl | rfl | rfl | rfl | rfl
  · exact m_ck20
  · exact m_ck21
  · exact m_ck22
  · exact m_ck23
  · exact m_ck24
  · exact m_ck25
  · exact m_ck26
  · exact m_ck27
  · exact m_ck28
  · exact m_ck29
  · exact m_ck30
  · exact m_ck31
  · exact m_ck32
  · exact m_ck33
  · exact m_ck34
  · exact m_ck35
  · exact m_ck36
  · exact m_ck37
  · exact m_ck38
  · exact m_ck39
theorem m_g2 (M : Nat) (h0 : 40 ≤ M) (h : M < 60) (hz : M ≠ 420) : m_tck M (m_tb M) = true := by
  have h1 : M = 40 ∨ M = 41 ∨ M = 42 ∨ M = 43 ∨ M = 44 ∨ M = 45 ∨ M = 46 ∨ M = 47 ∨ M = 48 ∨ M = 49 ∨ M = 50 ∨ M = 51 ∨ M = 52 ∨ M = 53 ∨ M = 54 ∨ M = 55 ∨ M = 56 ∨ M = 57 ∨ M = 58 ∨ M = 59 := by omega
  rcases h1 with rfl | rfl | rfl | rfl | rfl | rfl | rfl | rfl | rfl | rfl | rfl | rfl | rfl | rfl | rfl | rfl | rfl | rfl | rfl | rfl
  · exact m_ck40
  · exact m_ck41
  · exact m_ck42
  · exact m_ck43
  · exact m_ck44
  · exact m_ck45
  · exact m_ck46
  · exact m_ck47
  · exact m_ck48
  · exact m_ck49
  · exact m_ck50
  · exact m_ck51
  · exact m_ck52
  · exact m_ck53
  · exact m_ck54
  · exact m_ck55
  · exact m_ck56
  · exact m_ck57
  · exact m_ck58
  · exact m_ck59
theorem m_g3 (M : Nat) (h0 : 60 ≤ M) (h : M < 80) (hz : M ≠ 420) : m_tck M (m_tb M) = true := by
  have h1 : M = 60 ∨ M = 61 ∨ M = 62 ∨ M = 63 ∨ M = 64 ∨ M = 65 ∨ M = 66 ∨ M = 67 ∨ M = 68 ∨ M = 69 ∨ M = 70 ∨ M = 71 ∨ M = 72 ∨ M = 73 ∨ M = 74 ∨ M = 75 ∨ M = 76 ∨ M = 77 ∨ M = 78 ∨ M = 79 := by omega
  rcases h1 with rfl | rfl | rfl | rfl | rfl | rfl | rfl | rfl | rfl | rfl | rfl | rfl | rfl | rfl | rfl | rfl | rfl | rfl | rfl | rfl
  · exact m_ck60
  · exact m_ck61
  · exact m_ck62
  · exact m_ck63
  · exact m_ck64
  · exact m_ck65
  · exact m_ck66
  · exact m_ck67
  · exact m_ck68
  · exact m_ck69
  · exact m_ck70
  · exact m_ck71
  · exact m_ck72
  · exact m_ck73
  · exact m_ck74
  · exact m_ck75
  · exact m_ck76
  · exact m_ck77
  · exact m_ck78
  · exact m_ck79
theorem m_g4 (M : Nat) (h0 : 80 ≤ M) (h : M < 100) (hz : M ≠ 420) : m_tck M (m_tb M) = true := by
  have h1 : M = 80 ∨ M = 81 ∨ M = 82 ∨ M = 83 ∨ M = 84 ∨ M = 85 ∨ M = 86 ∨ M = 87 ∨ M = 88 ∨ M = 89 ∨ M = 90 ∨ M = 91 ∨ M = 92 ∨ M = 93 ∨ M = 94 ∨ M = 95 ∨ M = 96 ∨ M = 97 ∨ M = 98 ∨ M = 99 := by omega
  rcases h1 with rfl | rfl | rfl | rfl | rfl | rfl | rfl | rfl | rfl | rfl | rfl | rfl | rfl | rfl | rfl | rfl | rfl | rfl | rfl | rfl
  · exact m_ck80
  · exact m_ck81
  · exact m_ck82
  · exact m_ck83
  · exact m_ck84
  · exact m_ck85
  · exact m_ck86
  · exact m_ck87
  · exact m_ck88
  · exact m_ck89
  · exact m_ck90
  · exact m_ck91
  · exact m_ck92
  · exact m_ck93
  · exact m_ck94
  · exact m_ck95
  · exact m_ck96
  · exact m_ck97
  · exact m_ck98
  · exact m_ck99
theorem m_g5 (M : Nat) (h0 : 100 ≤ M) (h : M < 120) (hz : M ≠ 420) : m_tck M (m_tb M) = true := by
  have h1 : M = 100 ∨ M = 101 ∨ M = 102 ∨ M = 103 ∨ M = 104 ∨ M = 105 ∨ M = 106 ∨ M = 107 ∨ M = 108 ∨ M = 109 ∨ M = 110 ∨ M = 111 ∨ M = 112 ∨ M = 113 ∨ M = 114 ∨ M = 115 ∨ M = 116 ∨ M = 117 ∨ M = 118 ∨ M = 119 := by omega
  rcases h1 with rfl | rfl | rfl | rfl | rfl | rfl | rfl | rfl | rfl | rfl | rfl | rfl | rfl | rfl | rfl | rfl | rfl | rfl | rfl | rfl
  · exact m_ck100
  · exact m_ck101
  · exact m_ck102
  · exact m_ck103
  · exact m_ck104
  · exact m_ck105
  · exact m_ck106
  · exact m_ck107
  · exact m_ck108
  · exact m_ck109
  · exact m_ck110
  · exact m_ck111
  · exact m_ck112
  · exact m_ck113
  · exact m_ck114
  · exact m_ck115
  · exact m_ck116
  · exact m_ck117
  · exact m_ck118
  · exact m_ck119
theorem m_g6 (M : Nat) (h0 : 120 ≤ M) (h : M < 140) (hz : M ≠ 420) : m_tck M (m_tb M) = true := by
  have h1 : M = 120 ∨ M = 121 ∨ M = 122 ∨ M = 123 ∨ M = 124 ∨ M = 125 ∨ M = 126 ∨ M = 127 ∨ M = 128 ∨ M = 129 ∨ M = 130 ∨ M = 131 ∨ M = 132 ∨ M = 133 ∨ M = 134 ∨ M = 135 ∨ M = 136 ∨ M = 137 ∨ M = 138 ∨ M = 139 := by omega
  rcases h1 with rfl | rfl | rfl | rfl | rfl | rfl | rfl | rfl | rfl | rfl | rfl | rfl | rfl | rfl | rfl | rfl | rfl | rfl | rfl | rfl
  · exact m_ck120
  · exact m_ck121
  · exact m_ck122
  · exact m_ck123
  · exact m_ck124
  · exact m_ck125
  · exact m_ck126
  · exact m_ck127
  · exact m_ck128
  · exact m_ck129
  · exact m_ck130
  · exact m_ck131
  · exact m_ck132
  · exact m_ck133
  · exact m_ck134
  · exact m_ck135
  · exact m_ck136
  · exact m_ck137
  · exact m_ck138
  · exact m_ck139
theorem m_g7 (M : Nat) (h0 : 140 ≤ M) (h : M < 160) (hz : M ≠ 420) : m_tck M (m_tb M) = true := by
  have h1 : M = 140 ∨ M = 141 ∨ M = 142 ∨ M = 143 ∨ M = 144 ∨ M = 145 ∨ M = 146 ∨ M = 147 ∨ M = 148 ∨ M = 149 ∨ M = 150 ∨ M = 151 ∨ M = 152 ∨ M = 153 ∨ M = 154 ∨ M = 155 ∨ M = 156 ∨ M = 157 ∨ M = 158 ∨ M = 159 := by omega
  rcases h1 with rfl | rfl | rfl | rfl | rfl | rfl | rfl | rfl | rfl | rfl | rfl | rfl | rfl | rfl | rfl | rfl | rfl | rfl | rfl | rfl
  · exact m_ck140
  · exact m_ck141
  · exact m_ck142
  · exact m_ck143
  · exact m_ck144
  · exact m_ck145
  · exact m_ck146
  · exact m_ck147
  · exact m_ck148
  · exact m_ck149
  · exact m_ck150
  · exact m_ck151
  · exact m_ck152
  · exact m_ck153
  · exact m_ck154
  · exact m_ck155
  · exact m_ck156
  · exact m_ck157
  · exact m_ck158
  · exact m_ck159
theorem m_g8 (M : Nat) (h0 : 160 ≤ M) (h : M < 180) (hz : M ≠ 420) : m_tck M (m_tb M) = true := by
  have h1 : M = 160 ∨ M = 161 ∨ M = 162 ∨ M = 163 ∨ M = 164 ∨ M = 165 ∨ M = 166 ∨ M = 167 ∨ M = 168 ∨ M = 169 ∨ M = 170 ∨ M = 171 ∨ M = 172 ∨ M = 173 ∨ M = 174 ∨ M = 175 ∨ M = 176 ∨ M = 177 ∨ M = 178 ∨ M = 179 := by omega
  rcases h1 with rfl | rfl | rfl | rfl | rfl | rfl | rfl | rfl | rfl | rfl | rfl | rfl | rfl | rfl | rfl | rfl | rfl | rfl | rfl | rfl
  · exact m_ck160
  · exact m_ck161
  · exact m_ck162
  · exact m_ck163
  · exact m_ck164
  · exact m_ck165
  · exact m_ck166
  · exact m_ck167
  · exact m_ck168
  · exact m_ck169
  · exact m_ck170
  · exact m_ck171
  · exact m_ck172
  · exact m_ck173
  · exact m_ck174
  · exact m_ck175
  · exact m_ck176
  · exact m_ck177
  · exact m_ck178
  · exact m_ck179
theorem m_g9 (M : Nat) (h0 : 180 ≤ M) (h : M < 200) (hz : M ≠ 420) : m_tck M (m_tb M) = true := by
  have h1 : M = 180 ∨ M = 181 ∨ M = 182 ∨ M = 183 ∨ M = 184 ∨ M = 185 ∨ M = 186 ∨ M = 187 ∨ M = 188 ∨ M = 189 ∨ M = 190 ∨ M = 191 ∨ M = 192 ∨ M = 193 ∨ M = 194 ∨ M = 195 ∨ M = 196 ∨ M = 197 ∨ M = 198 ∨ M = 199 := by omega
  rcases h1 with rfl | rfl | rfl | rfl | rfl | rfl | rfl | rfl | rfl | rfl | rfl | rfl | rfl | rfl | rfl | rfl | rfl | rfl | rfl | rfl
  · exact m_ck180
  · exact m_ck181
  · exact m_ck182
  · exact m_ck183
  · exact m_ck184
  · exact m_ck185
  · exact m_ck186
  · exact m_ck187
  · exact m_ck188
  · exact m_ck189
  · exact m_ck190
  · exact m_ck191
  · exact m_ck192
  · exact m_ck193
  · exact m_ck194
  · exact m_ck195
  · exact m_ck196
  · exact m_ck197
  · exact m_ck198
  · exact m_ck199
theorem m_g10 (M : Nat) (h0 : 200 ≤ M) (h : M < 220) (hz : M ≠ 420) : m_tck M (m_tb M) = true := by
  have h1 : M = 200 ∨ M = 201 ∨ M = 202 ∨ M = 203 ∨ M = 204 ∨ M = 205 ∨ M = 206 ∨ M = 207 ∨ M = 208 ∨ M = 209 ∨ M = 210 ∨ M = 211 ∨ M = 212 ∨ M = 213 ∨ M = 214 ∨ M = 215 ∨ M = 216 ∨ M = 217 ∨ M = 218 ∨ M = 219 := by omega
  rcases h1 with rfl | rfl | rfl | rfl | rfl | rfl | rfl | rfl | rfl | rfl | rfl | rfl | rfl | rfl | rfl | rfl | rfl | rfl | rfl | rfl
  · exact m_ck200
  · exact m_ck201
  · exact m_ck202
  · exact m_ck203
  · exact m_ck204
  · exact m_ck205
  · exact m_ck206
  · exact m_ck207
  · exact m_ck208
  · exact m_ck209
  · exact m_ck210
  · exact m_ck211
  · exact m_ck212
  · exact m_ck213
  · exact m_ck214
  · exact m_ck215
  · exact m_ck216
  · exact m_ck217
  · exact m_ck218
  · exact m_ck219
theorem m_g11 (M : Nat) (h0 : 220 ≤ M) (h : M < 240) (hz : M ≠ 420) : m_tck M (m_tb M) = true := by
  have h1 : M = 220 ∨ M = 221 ∨ M = 222 ∨ M = 223 ∨ M = 224 ∨ M = 225 ∨ M = 226 ∨ M = 227 ∨ M = 228 ∨ M = 229 ∨ M = 230 ∨ M = 231 ∨ M = 232 ∨ M = 233 ∨ M = 234 ∨ M = 235 ∨ M = 236 ∨ M = 237 ∨ M = 238 ∨ M = 239 := by omega
  rcases h1 with rfl | rfl | rfl | rfl | rfl | rfl | rfl | rfl | rfl | rfl | rfl | rfl | rfl | rfl | rfl | rfl | rfl | rfl | rfl | rfl
  · exact m_ck220
  · exact m_ck221
  · exact m_ck222
  · exact m_ck223
  · exact m_ck224
  · exact m_ck225
  · exact m_ck226
  · exact m_ck227
  · exact m_ck228
  · exact m_ck229
  · exact m_ck230
  · exact m_ck231
  · exact m_ck232
  · exact m_ck233
  · exact m_ck234
  · exact m_ck235
  · exact m_ck236
  · exact m_ck237
  · exact m_ck238
  · exact m_ck239
theorem m_g12 (M : Nat) (h0 : 240 ≤ M) (h : M < 260) (hz : M ≠ 420) : m_tck M (m_tb M) = true := by
  have h1 : M = 240 ∨ M = 241 ∨ M = 242 ∨ M = 243 ∨ M = 244 ∨ M = 245 ∨ M = 246 ∨ M = 247 ∨ M = 248 ∨ M = 249 ∨ M = 250 ∨ M = 251 ∨ M = 252 ∨ M = 253 ∨ M = 254 ∨ M = 255 ∨ M = 256 ∨ M = 257 ∨ M = 258 ∨ M = 259 := by omega
  rcases h1 with rfl | rfl | rfl | rfl | rfl | rfl | rfl | rfl | rfl | rfl | rfl | rfl | rfl | rfl | rfl | rfl | rfl | rfl | rfl | rfl
  · exact m_ck240
  · exact m_ck241
  · exact m_ck242
  · exact m_ck243
  · exact m_ck244
  · exact m_ck245
  · exact m_ck246
  · exact m_ck247
  · exact m_ck248
  · exact m_ck249
  · exact m_ck250
  · exact m_ck251
  · exact m_ck252
  · exact m_ck253
  · exact m_ck254
  · exact m_ck255
  · exact m_ck256
  · exact m_ck257
  · exact m_ck258
  · exact m_ck259
theorem m_g13 (M : Nat) (h0 : 260 ≤ M) (h : M < 280) (hz : M ≠ 420) : m_tck M (m_tb M) = true := by
  have h1 : M = 260 ∨ M = 261 ∨ M = 262 ∨ M = 263 ∨ M = 264 ∨ M = 265 ∨ M = 266 ∨ M = 267 ∨ M = 268 ∨ M = 269 ∨ M = 270 ∨ M = 271 ∨ M = 272 ∨ M = 273 ∨ M = 274 ∨ M = 275 ∨ M = 276 ∨ M = 277 ∨ M = 278 ∨ M = 279 := by omega
  rcases h1 with rfl | rfl | rfl | rfl | rfl | rfl | rfl | rfl | rfl | rfl | rfl | rfl | rfl | rfl | rfl | rfl | rfl | rfl | rfl | rfl
  · exact m_ck260
  · exact m_ck261
  · exact m_ck262
  · exact m_ck263
  · exact m_ck264
  · exact m_ck265
  · exact m_ck266
  · exact m_ck267
  · exact m_ck268
  · exact m_ck269
  · exact m_ck270
  · exact m_ck271
  · exact m_ck272
  · exact m_ck273
  · exact m_ck274
  · exact m_ck275
  · exact m_ck276
  · exact m_ck277
  · exact m_ck278
  · exact m_ck279
theorem m_g14 (M : Nat) (h0 : 280 ≤ M) (h : M < 300) (hz : M ≠ 420) : m_tck M (m_tb M) = true := by
  have h1 : M = 280 ∨ M = 281 ∨ M = 282 ∨ M = 283 ∨ M = 284 ∨ M = 285 ∨ M = 286 ∨ M = 287 ∨ M = 288 ∨ M = 289 ∨ M = 290 ∨ M = 291 ∨ M = 292 ∨ M = 293 ∨ M = 294 ∨ M = 295 ∨ M = 296 ∨ M = 297 ∨ M = 298 ∨ M = 299 := by omega
  rcases h1 with rfl | rfl | rfl | rfl | rfl | rfl | rfl | rfl | rfl | rfl | rfl | rfl | rfl | rfl | rfl | rfl | rfl | rfl | rfl | rfl
  · exact m_ck280
  · exact m_ck281
  · exact m_ck282
  · exact m_ck283
  · exact m_ck284
  · exact m_ck285
  · exact m_ck286
  · exact m_ck287
  · exact m_ck288
  · exact m_ck289
  · exact m_ck290
  · exact m_ck291
  · exact m_ck292
  · exact m_ck293
  · exact m_ck294
  · exact m_ck295
  · exact m_ck296
  · exact m_ck297
  · exact m_ck298
  · exact m_ck299
theorem m_g15 (M : Nat) (h0 : 300 ≤ M) (h : M < 320) (hz : M ≠ 420) : m_tck M (m_tb M) = true := by
  have h1 : M = 300 ∨ M = 301 ∨ M = 302 ∨ M = 303 ∨ M = 304 ∨ M = 305 ∨ M = 306 ∨ M = 307 ∨ M = 308 ∨ M = 309 ∨ M = 310 ∨ M = 311 ∨ M = 312 ∨ M = 313 ∨ M = 314 ∨ M = 315 ∨ M = 316 ∨ M = 317 ∨ M = 318 ∨ M = 319 := by omega
  rcases h1 with rfl | rfl | rfl | rfl | rfl | rfl | rfl | rfl | rfl | rfl | rfl | rfl | rfl | rfl | rfl | rfl | rfl | rfl | rfl | rfl
  · exact m_ck300
  · exact m_ck301
  · exact m_ck302
  · exact m_ck303
  · exact m_ck304
  · exact m_ck305
  · exact m_ck306
  · exact m_ck307
  · exact m_ck308
  · exact m_ck309
  · exact m_ck310
  · exact m_ck311
  · exact m_ck312
  · exact m_ck313
  · exact m_ck314
  · exact m_ck315
  · exact m_ck316
  · exact m_ck317
  · exact m_ck318
  · exact m_ck319
theorem m_g16 (M : Nat) (h0 : 320 ≤ M) (h : M < 340) (hz : M ≠ 420) : m_tck M (m_tb M) = true := by
  have h1 : M = 320 ∨ M = 321 ∨ M = 322 ∨ M = 323 ∨ M = 324 ∨ M = 325 ∨ M = 326 ∨ M = 327 ∨ M = 328 ∨ M = 329 ∨ M = 330 ∨ M = 331 ∨ M = 332 ∨ M = 333 ∨ M = 334 ∨ M = 335 ∨ M = 336 ∨ M = 337 ∨ M = 338 ∨ M = 339 := by omega
  rcases h1 with rfl | rfl | rfl | rfl | rfl | rfl | rfl | rfl | rfl | rfl | rfl | rfl | rfl | rfl | rfl | rfl | rfl | rfl | rfl | rfl
  · exact m_ck320
  · exact m_ck321
  · exact m_ck322
  · exact m_ck323
  · exact m_ck324
  · exact m_ck325
  · exact m_ck326
  · exact m_ck327
  · exact m_ck328
  · exact m_ck329
  · exact m_ck330
  · exact m_ck331
  · exact m_ck332
  · exact m_ck333
  · exact m_ck334
  · exact m_ck335
  · exact m_ck336
  · exact m_ck337
  · exact m_ck338
  · exact m_ck339
theorem m_g17 (M : Nat) (h0 : 340 ≤ M) (h : M < 360) (hz : M ≠ 420) : m_tck M (m_tb M) = true := by
  have h1 : M = 340 ∨ M = 341 ∨ M = 342 ∨ M = 343 ∨ M = 344 ∨ M = 345 ∨ M = 346 ∨ M = 347 ∨ M = 348 ∨ M = 349 ∨ M = 350 ∨ M = 351 ∨ M = 352 ∨ M = 353 ∨ M = 354 ∨ M = 355 ∨ M = 356 ∨ M = 357 ∨ M = 358 ∨ M = 359 := by omega
  rcases h1 with rfl | rfl | rfl | rfl | rfl | rfl | rfl | rfl | rfl | rfl | rfl | rfl | rfl | rfl | rfl | rfl | rfl | rfl | rfl | rfl
  · exact m_ck340
  · exact m_ck341
  · exact m_ck342
  · exact m_ck343
  · exact m_ck344
  · exact m_ck345
  · exact m_ck346
  · exact m_ck347
  · exact m_ck348
  · exact m_ck349
  · exact m_ck350
  · exact m_ck351
  · exact m_ck352
  · exact m_ck353
  · exact m_ck354
  · exact m_ck355
  · exact m_ck356
  · exact m_ck357
  · exact m_ck358
  · exact m_ck359
theorem m_g18 (M : Nat) (h0 : 360 ≤ M) (h : M < 380) (hz : M ≠ 420) : m_tck M (m_tb M) = true := by
  have h1 : M = 360 ∨ M = 361 ∨ M = 362 ∨ M = 363 ∨ M = 364 ∨ M = 365 ∨ M = 366 ∨ M = 367 ∨ M = 368 ∨ M = 369 ∨ M = 370 ∨ M = 371 ∨ M = 372 ∨ M = 373 ∨ M = 374 ∨ M = 375 ∨ M = 376 ∨ M = 377 ∨ M = 378 ∨ M = 379 := by omega
  rcases h1 with rfl | rfl | rfl | rfl | rfl | rfl | rfl | rfl | rfl | rfl | rfl | rfl | rfl | rfl | rfl | rfl | rfl | rfl | rfl | rfl
  · exact m_ck360
  · exact m_ck361
  · exact m_ck362
  · exact m_ck363
  · exact m_ck364
  · exact m_ck365
  · exact m_ck366
  · exact m_ck367
  · exact m_ck368
  · exact m_ck369
  · exact m_ck370
  · exact m_ck371
  · exact m_ck372
  · exact m_ck373
  · exact m_ck374
  · exact m_ck375
  · exact m_ck376
  · exact m_ck377
  · exact m_ck378
  · exact m_ck379
theorem m_g19 (M : Nat) (h0 : 380 ≤ M) (h : M < 400) (hz : M ≠ 420) : m_tck M (m_tb M) = true := by
  have h1 : M = 380 ∨ M = 381 ∨ M = 382 ∨ M = 383 ∨ M = 384 ∨ M = 385 ∨ M = 386 ∨ M = 387 ∨ M = 388 ∨ M = 389 ∨ M = 390 ∨ M = 391 ∨ M = 392 ∨ M = 393 ∨ M = 394 ∨ M = 395 ∨ M = 396 ∨ M = 397 ∨ M = 398 ∨ M = 399 := by omega
  rcases h1 with rfl | rfl | rfl | rfl | rfl | rfl | rfl | rfl | rfl | rfl | rfl | rfl | rfl | rfl | rfl | rfl | rfl | rfl | rfl | rfl
  · exact m_ck380
  · exact m_ck381
  · exact m_ck382
  · exact m_ck383
  · exact m_ck384
  · exact m_ck385
  · exact m_ck386
  · exact m_ck387
  · exact m_ck388
  · exact m_ck389
  · exact m_ck390
  · exact m_ck391
  · exact m_ck392
  · exact m_ck393
  · exact m_ck394
  · exact m_ck395
  · exact m_ck396
  · exact m_ck397
  · exact m_ck398
  · exact m_ck399
theorem m_g20 (M : Nat) (h0 : 400 ≤ M) (h : M < 420) (hz : M ≠ 420) : m_tck M (m_tb M) = true := by
  have h1 : M = 400 ∨ M = 401 ∨ M = 402 ∨ M = 403 ∨ M = 404 ∨ M = 405 ∨ M = 406 ∨ M = 407 ∨ M = 408 ∨ M = 409 ∨ M = 410 ∨ M = 411 ∨ M = 412 ∨ M = 413 ∨ M = 414 ∨ M = 415 ∨ M = 416 ∨ M = 417 ∨ M = 418 ∨ M = 419 := by omega
  rcases h1 with rfl | rfl | rfl | rfl | rfl | rfl | rfl | rfl | rfl | rfl | rfl | rfl | rfl | rfl | rfl | rfl | rfl | rfl | rfl | rfl
  · exact m_ck400
  · exact m_ck401
  · exact m_ck402
  · exact m_ck403
  · exact m_ck404
  · exact m_ck405
  · exact m_ck406
  · exact m_ck407
  · exact m_ck408
  · exact m_ck409
  · exact m_ck410
  · exact m_ck411
  · exact m_ck412
  · exact m_ck413
  · exact m_ck414
  · exact m_ck415
  · exact m_ck416
  · exact m_ck417
  · exact m_ck418
  · exact m_ck419
theorem m_g21 (M : Nat) (h0 : 420 ≤ M) (h : M < 439) (hz : M ≠ 420) : m_tck M (m_tb M) = true := by
  have h1 : M = 420 ∨ M = 421 ∨ M = 422 ∨ M = 423 ∨ M = 424 ∨ M = 425 ∨ M = 426 ∨ M = 427 ∨ M = 428 ∨ M = 429 ∨ M = 430 ∨ M = 431 ∨ M = 432 ∨ M = 433 ∨ M = 434 ∨ M = 435 ∨ M = 436 ∨ M = 437 ∨ M = 438 := by omega
  rcases h1 with rfl | rfl | rfl | rfl | rfl | rfl | rfl | rfl | rfl | rfl | rfl | rfl | rfl | rfl | rfl | rfl | rfl | rfl | rfl
  · exact absurd rfl hz
  · exact m_ck421
  · exact m_ck422
  · exact m_ck423
  · exact m_ck424
  · exact m_ck425
  · exact m_ck426
  · exact m_ck427
  · exact m_ck428
  · exact m_ck429
  · exact m_ck430
  · exact m_ck431
  · exact m_ck432
  · exact m_ck433
  · exact m_ck434
  · exact m_ck435
  · exact m_ck436
  · exact m_ck437
  · exact m_ck438
theorem m_tckAll (M : Nat) (h : M < 439) (hz : M ≠ 420) : m_tck M (m_tb M) = true := by
  by_cases h0 : M < 20
  · exact m_g0 M (by omega) h0 hz
  by_cases h1 : M < 40
  · exact m_g1 M (by omega) h1 hz
  by_cases h2 : M < 60
  · exact m_g2 M (by omega) h2 hz
  by_cases h3 : M < 80
  · exact m_g3 M (by omega) h3 hz
  by_cases h4 : M < 100
  · exact m_g4 M (by omega) h4 hz
  by_cases h5 : M < 120
  · exact m_g5 M (by omega) h5 hz
  by_cases h6 : M < 140
  · exact m_g6 M (by omega) h6 hz
  by_cases h7 : M < 160
  · exact m_g7 M (by omega) h7 hz
  by_cases h8 : M < 180
  · exact m_g8 M (by omega) h8 hz
  by_cases h9 : M < 200
  · exact m_g9 M (by omega) h9 hz
  by_cases h10 : M < 220
  · exact m_g10 M (by omega) h10 hz
  by_cases h11 : M < 240
  · exact m_g11 M (by omega) h11 hz
  by_cases h12 : M < 260
  · exact m_g12 M (by omega) h12 hz
  by_cases h13 : M < 280
  · exact m_g13 M (by omega) h13 hz
  by_cases h14 : M < 300
  · exact m_g14 M (by omega) h14 hz
  by_cases h15 : M < 320
  · exact m_g15 M (by omega) h15 hz
  by_cases h16 : M < 340
  · exact m_g16 M (by omega) h16 hz
  by_cases h17 : M < 360
  · exact m_g17 M (by omega) h17 hz
  by_cases h18 : M < 380
  · exact m_g18 M (by omega) h18 hz
  by_cases h19 : M < 400
  · exact m_g19 M (by omega) h19 hz
  by_cases h20 : M < 420
  · exact m_g20 M (by omega) h20 hz
  exact m_g21 M (by omega) h hz
theorem m_tbs_len : m_tbs.length = 439 := by decide +kernel
theorem m_ickAll (M pc : Nat) (i : Instr) (q : LK) (h : (m_tb M)[pc]? = some (some (i, q))) : m_ick M pc i q = true := by
  by_cases hM : M < 439
  · by_cases hz : M = 420
    · subst hz
      exact m_ick420 pc i q h
    · exact m_ick_of (m_tckAll M hM hz) pc i q h
  · have e : m_tb M = [] := by
      unfold m_tb
      rw [List.getD_eq_getElem?_getD, List.getElem?_eq_none (by rw [m_tbs_len]; omega)]
      rfl
    rw [e] at h
    cases h
theorem m_mokAll (M : Nat) (h : M < 439) (h2 : M ≠ 420) : m_mok M = true := by
  have key : (m_mok M || M == 420) = true := by
    by_cases h0 : M < 5
    · have := m_pick m_o0 (M - 0) (by omega)
      rwa [show 0 + (M - 0) = M by omega] at this
    by_cases h1 : M < 10
    · have := m_pick m_o1 (M - 5) (by omega)
      rwa [show 5 + (M - 5) = M by omega] at this
    by_cases h2 : M < 15
    · have := m_pick m_o2 (M - 10) (by omega)
      rwa [show 10 + (M - 10) = M by omega] at this
    by_cases h3 : M < 20
    · have := m_pick m_o3 (M - 15) (by omega)
      rwa [show 15 + (M - 15) = M by omega] at this
    by_cases h4 : M < 25
    · have := m_pick m_o4 (M - 20) (by omega)
      rwa [show 20 + (M - 20) = M by omega] at this
    by_cases h5 : M < 30
    · have := m_pick m_o5 (M - 25) (by omega)
      rwa [show 25 + (M - 25) = M by omega] at this
    by_cases h6 : M < 35
    · have := m_pick m_o6 (M - 30) (by omega)
      rwa [show 30 + (M - 30) = M by omega] at this
    by_cases h7 : M < 40
    · have := m_pick m_o7 (M - 35) (by omega)
      rwa [show 35 + (M - 35) = M by omega] at this
    by_cases h8 : M < 45
    · have := m_pick m_o8 (M - 40) (by omega)
      rwa [show 40 + (M - 40) = M by omega] at this
    by_cases h9 : M < 50
    · have := m_pick m_o9 (M - 45) (by omega)
      rwa [show 45 + (M - 45) = M by omega] at this
    by_cases h10 : M < 55
    · have := m_pick m_o10 (M - 50) (by omega)
      rwa [show 50 + (M - 50) = M by omega] at this
    by_cases h11 : M < 60
    · have := m_pick m_o11 (M - 55) (by omega)
      rwa [show 55 + (M - 55) = M by omega] at this
    by_cases h12 : M < 65
    · have := m_pick m_o12 (M - 60) (by omega)
      rwa [show 60 + (M - 60) = M by omega] at this
    by_cases h13 : M < 70
    · have := m_pick m_o13 (M - 65) (by omega)
      rwa [show 65 + (M - 65) = M by omega] at this
    by_cases h14 : M < 75
    · have := m_pick m_o14 (M - 70) (by omega)
      rwa [show 70 + (M - 70) = M by omega] at this
    by_cases h15 : M < 80
    · have := m_pick m_o15 (M - 75) (by omega)
      rwa [show 75 + (M - 75) = M by omega] at this
    by_cases h16 : M < 85
    · have := m_pick m_o16 (M - 80) (by omega)
      rwa [show 80 + (M - 80) = M by omega] at this
    by_cases h17 : M < 90
    · have := m_pick m_o17 (M - 85) (by omega)
      rwa [show 85 + (M - 85) = M by omega] at this
    by_cases h18 : M < 95
    · have := m_pick m_o18 (M - 90) (by omega)
      rwa [show 90 + (M - 90) = M by omega] at this
    by_cases h19 : M < 100
    · have := m_pick m_o19 (M - 95) (by omega)
      rwa [show 95 + (M - 95) = M by omega] at this
    by_cases h20 : M < 105
    · have := m_pick m_o20 (M - 100) (by omega)
      rwa [show 100 + (M - 100) = M by omega] at this
    by_cases h21 : M < 110
    · have := m_pick m_o21 (M - 105) (by omega)
      rwa [show 105 + (M - 105) = M by omega] at this
    by_cases h22 : M < 115
    · have := m_pick m_o22 (M - 110) (by omega)
      rwa [show 110 + (M - 110) = M by omega] at this
    by_cases h23 : M < 120
    · have := m_pick m_o23 (M - 115) (by omega)
      rwa [show 115 + (M - 115) = M by omega] at this
    by_cases h24 : M < 125
    · have := m_pick m_o24 (M - 120) (by omega)
      rwa [show 120 + (M - 120) = M by omega] at this
    by_cases h25 : M < 130
    · have := m_pick m_o25 (M - 125) (by omega)
      rwa [show 125 + (M - 125) = M by omega] at this
    by_cases h26 : M < 135
    · have := m_pick m_o26 (M - 130) (by omega)
      rwa [show 130 + (M - 130) = M by omega] at this
    by_cases h27 : M < 140
    · have := m_pick m_o27 (M - 135) (by omega)
      rwa [show 135 + (M - 135) = M by omega] at this
    by_cases h28 : M < 145
    · have := m_pick m_o28 (M - 140) (by omega)
      rwa [show 140 + (M - 140) = M by omega] at this
    by_cases h29 : M < 150
    · have := m_pick m_o29 (M - 145) (by omega)
      rwa [show 145 + (M - 145) = M by omega] at this
    by_cases h30 : M < 155
    · have := m_pick m_o30 (M - 150) (by omega)
      rwa [show 150 + (M - 150) = M by omega] at this
    by_cases h31 : M < 160
    · have := m_pick m_o31 (M - 155) (by omega)
      rwa [show 155 + (M - 155) = M by omega] at this
    by_cases h32 : M < 165
    · have := m_pick m_o32 (M - 160) (by omega)
      rwa [show 160 + (M - 160) = M by omega] at this
    by_cases h33 : M < 170
    · have := m_pick m_o33 (M - 165) (by omega)
      rwa [show 165 + (M - 165) = M by omega] at this
    by_cases h34 : M < 175
    · have := m_pick m_o34 (M - 170) (by omega)
      rwa [show 170 + (M - 170) = M by omega] at this
    by_cases h35 : M < 180
    · have := m_pick m_o35 (M - 175) (by omega)
      rwa [show 175 + (M - 175) = M by omega] at this
    by_cases h36 : M < 185
    · have := m_pick m_o36 (M - 180) (by omega)
      rwa [show 180 + (M - 180) = M by omega] at this
    by_cases h37 : M < 190
    · have := m_pick m_o37 (M - 185) (by omega)
      rwa [show 185 + (M - 185) = M by omega] at this
    by_cases h38 : M < 195
    · have := m_pick m_o38 (M - 190) (by omega)
      rwa [show 190 + (M - 190) = M by omega] at this
    by_cases h39 : M < 200
    · have := m_pick m_o39 (M - 195) (by omega)
      rwa [show 195 + (M - 195) = M by omega] at this
    by_cases h40 : M < 205
    · have := m_pick m_o40 (M - 200) (by omega)
      rwa [show 200 + (M - 200) = M by omega] at this
    by_cases h41 : M < 210
    · have := m_pick m_o41 (M - 205) (by omega)
      rwa [show 205 + (M - 205) = M by omega] at this
    by_cases h42 : M < 215
    · have := m_pick m_o42 (M - 210) (by omega)
      rwa [show 210 + (M - 210) = M by omega] at this
    by_cases h43 : M < 220
    · have := m_pick m_o43 (M - 215) (by omega)
      rwa [show 215 + (M - 215) = M by omega] at this
    by_cases h44 : M < 225
    · have := m_pick m_o44 (M - 220) (by omega)
      rwa [show 220 + (M - 220) = M by omega] at this
    by_cases h45 : M < 230
    · have := m_pick m_o45 (M - 225) (by omega)
      rwa [show 225 + (M - 225) = M by omega] at this
    by_cases h46 : M < 235
    · have := m_pick m_o46 (M - 230) (by omega)
      rwa [show 230 + (M - 230) = M by omega] at this
    by_cases h47 : M < 240
    · have := m_pick m_o47 (M - 235) (by omega)
      rwa [show 235 + (M - 235) = M by omega] at this
    by_cases h48 : M < 245
    · have := m_pick m_o48 (M - 240) (by omega)
      rwa [show 240 + (M - 240) = M by omega] at this
    by_cases h49 : M < 250
    · have := m_pick m_o49 (M - 245) (by omega)
      rwa [show 245 + (M - 245) = M by omega] at this
    by_cases h50 : M < 255
    · have := m_pick m_o50 (M - 250) (by omega)
      rwa [show 250 + (M - 250) = M by omega] at this
    by_cases h51 : M < 260
    · have := m_pick m_o51 (M - 255) (by omega)
      rwa [show 255 + (M - 255) = M by omega] at this
    by_cases h52 : M < 265
    · have := m_pick m_o52 (M - 260) (by omega)
      rwa [show 260 + (M - 260) = M by omega] at this
    by_cases h53 : M < 270
    · have := m_pick m_o53 (M - 265) (by omega)
      rwa [show 265 + (M - 265) = M by omega] at this
    by_cases h54 : M < 275
    · have := m_pick m_o54 (M - 270) (by omega)
      rwa [show 270 + (M - 270) = M by omega] at this
    by_cases h55 : M < 280
    · have := m_pick m_o55 (M - 275) (by omega)
      rwa [show 275 + (M - 275) = M by omega] at this
    by_cases h56 : M < 285
    · have := m_pick m_o56 (M - 280) (by omega)
      rwa [show 280 + (M - 280) = M by omega] at this
    by_cases h57 : M < 290
    · have := m_pick m_o57 (M - 285) (by omega)
      rwa [show 285 + (M - 285) = M by omega] at this
    by_cases h58 : M < 295
    · have := m_pick m_o58 (M - 290) (by omega)
      rwa [show 290 + (M - 290) = M by omega] at this
    by_cases h59 : M < 300
    · have := m_pick m_o59 (M - 295) (by omega)
      rwa [show 295 + (M - 295) = M by omega] at this
    by_cases h60 : M < 305
    · have := m_pick m_o60 (M - 300) (by omega)
      rwa [show 300 + (M - 300) = M by omega] at this
    by_cases h61 : M < 310
    · have := m_pick m_o61 (M - 305) (by omega)
      rwa [show 305 + (M - 305) = M by omega] at this
    by_cases h62 : M < 315
    · have := m_pick m_o62 (M - 310) (by omega)
      rwa [show 310 + (M - 310) = M by omega] at this
    by_cases h63 : M < 320
    · have := m_pick m_o63 (M - 315) (by omega)
      rwa [show 315 + (M - 315) = M by omega] at this
    by_cases h64 : M < 325
    · have := m_pick m_o64 (M - 320) (by omega)
      rwa [show 320 + (M - 320) = M by omega] at this
    by_cases h65 : M < 330
    · have := m_pick m_o65 (M - 325) (by omega)
      rwa [show 325 + (M - 325) = M by omega] at this
    by_cases h66 : M < 335
    · have := m_pick m_o66 (M - 330) (by omega)
      rwa [show 330 + (M - 330) = M by omega] at this
    by_cases h67 : M < 340
    · have := m_pick m_o67 (M - 335) (by omega)
      rwa [show 335 + (M - 335) = M by omega] at this
    by_cases h68 : M < 345
    · have := m_pick m_o68 (M - 340) (by omega)
      rwa [show 340 + (M - 340) = M by omega] at this
    by_cases h69 : M < 350
    · have := m_pick m_o69 (M - 345) (by omega)
      rwa [show 345 + (M - 345) = M by omega] at this
    by_cases h70 : M < 355
    · have := m_pick m_o70 (M - 350) (by omega)
      rwa [show 350 + (M - 350) = M by omega] at this
    by_cases h71 : M < 360
    · have := m_pick m_o71 (M - 355) (by omega)
      rwa [show 355 + (M - 355) = M by omega] at this
    by_cases h72 : M < 365
    · have := m_pick m_o72 (M - 360) (by omega)
      rwa [show 360 + (M - 360) = M by omega] at this
    by_cases h73 : M < 370
    · have := m_pick m_o73 (M - 365) (by omega)
      rwa [show 365 + (M - 365) = M by omega] at this
    by_cases h74 : M < 375
    · have := m_pick m_o74 (M - 370) (by omega)
      rwa [show 370 + (M - 370) = M by omega] at this
    by_cases h75 : M < 380
    · have := m_pick m_o75 (M - 375) (by omega)
      rwa [show 375 + (M - 375) = M by omega] at this
    by_cases h76 : M < 385
    · have := m_pick m_o76 (M - 380) (by omega)
      rwa [show 380 + (M - 380) = M by omega] at this
    by_cases h77 : M < 390
    · have := m_pick m_o77 (M - 385) (by omega)
      rwa [show 385 + (M - 385) = M by omega] at this
    by_cases h78 : M < 395
    · have := m_pick m_o78 (M - 390) (by omega)
      rwa [show 390 + (M - 390) = M by omega] at this
    by_cases h79 : M < 400
    · have := m_pick m_o79 (M - 395) (by omega)
      rwa [show 395 + (M - 395) = M by omega] at this
    by_cases h80 : M < 405
    · have := m_pick m_o80 (M - 400) (by omega)
      rwa [show 400 + (M - 400) = M by omega] at this
    by_cases h81 : M < 410
    · have := m_pick m_o81 (M - 405) (by omega)
      rwa [show 405 + (M - 405) = M by omega] at this
    by_cases h82 : M < 415
    · have := m_pick m_o82 (M - 410) (by omega)
      rwa [show 410 + (M - 410) = M by omega] at this
    by_cases h83 : M < 420
    · have := m_pick m_o83 (M - 415) (by omega)
      rwa [show 415 + (M - 415) = M by omega] at this
    by_cases h84 : M < 425
    · have := m_pick m_o84 (M - 420) (by omega)
      rwa [show 420 + (M - 420) = M by omega] at this
    by_cases h85 : M < 430
    · have := m_pick m_o85 (M - 425) (by omega)
      rwa [show 425 + (M - 425) = M by omega] at this
    by_cases h86 : M < 435
    · have := m_pick m_o86 (M - 430) (by omega)
      rwa [show 430 + (M - 430) = M by omega] at this
    have := m_pick m_o87 (M - 435) (by omega)
    rwa [show 435 + (M - 435) = M by omega] at this
  rw [Bool.or_eq_true, beq_iff_eq] at key
  exact key.resolve_right h2
theorem m_hmok (M pc : Nat) (i : Instr) (q : LK) (ls : ML) (st : List MV) (h : MH) (N : Nat) (xs r : List MV) (ht : (m_tb M)[pc]? = some (some (i, q))) (hm : mstep i q pc ls st h = .error (1, N, xs, r)) : m_mok N = true := by
  have hck := m_ickAll M pc i q ht
  obtain ⟨rfl, -, -, -, -, -, hi⟩ := m_call_inv hm
  unfold m_ick at hck
  rw [Bool.and_eq_true] at hck
  have hsp := hck.2
  have key : q.1 < 439 ∧ q.1 ≠ 420 := by
    rcases hi with ⟨idx, rfl, hk, -⟩ | ⟨idx, rfl, hk, -⟩ | ⟨idx, rfl, hk⟩
    · unfold m_spc at hsp
      dsimp only at hsp
      simp only [Bool.or_eq_true, Bool.and_eq_true, beq_iff_eq, decide_eq_true_iff] at hsp
      rcases hsp with h9 | ⟨-, -, h9, -⟩ | ⟨-, -, h9, -⟩ | h9
      · omega
      · exact h9
      · exact h9
      · omega
    · unfold m_spc at hsp
      dsimp only at hsp
      simp only [Bool.or_eq_true, Bool.and_eq_true, beq_iff_eq, decide_eq_true_iff] at hsp
      rcases hsp with ⟨-, -, h9, -⟩ | ⟨-, -, h9, -⟩ | h9
      · exact h9
      · exact h9
      · omega
    · unfold m_spc at hsp
      dsimp only at hsp
      simp only [Bool.or_eq_true, Bool.and_eq_true, beq_iff_eq, decide_eq_true_iff] at hsp
      rcases hsp with h9 | ⟨-, -, h9, -⟩ | ⟨-, -, h9, -⟩ | ⟨-, -, h9, -⟩ | h9
      · omega
      · exact h9
      · exact h9
      · exact h9
      · omega
  exact m_mokAll q.1 key.1 key.2
theorem m_SIM_all (l : Launch) (hlst : l.stackTraces = false) (f : Nat) : m_SIM l f := m_sim l hlst m_ickAll m_hmok f
