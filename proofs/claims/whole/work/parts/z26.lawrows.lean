/-! THE CHECK OF THE LAW'S ROWS, a piece at a time -/
def m_tckP (M lo : Nat) (tb : List (Option (Instr × LK))) : Bool := tb.zipIdx.all fun x => match x.1 with
  | some (i, q) => m_ick M (lo + x.2) i q
  | none => true
theorem m_ck420_len : m_t420.length = 2523 := by decide +kernel
theorem m_cl0 : m_tckP 420 0 ((m_t420.drop 0).take 60) = true := by decide +kernel
theorem m_cl1 : m_tckP 420 60 ((m_t420.drop 60).take 60) = true := by decide +kernel
theorem m_cl2 : m_tckP 420 120 ((m_t420.drop 120).take 60) = true := by decide +kernel
theorem m_cl3 : m_tckP 420 180 ((m_t420.drop 180).take 60) = true := by decide +kernel
theorem m_cl4 : m_tckP 420 240 ((m_t420.drop 240).take 60) = true := by decide +kernel
theorem m_cl5 : m_tckP 420 300 ((m_t420.drop 300).take 60) = true := by decide +kernel
theorem m_cl6 : m_tckP 420 360 ((m_t420.drop 360).take 60) = true := by decide +kernel
theorem m_cl7 : m_tckP 420 420 ((m_t420.drop 420).take 60) = true := by decide +kernel
theorem m_cl8 : m_tckP 420 480 ((m_t420.drop 480).take 60) = true := by decide +kernel
theorem m_cl9 : m_tckP 420 540 ((m_t420.drop 540).take 60) = true := by decide +kernel
theorem m_cl10 : m_tckP 420 600 ((m_t420.drop 600).take 60) = true := by decide +kernel
theorem m_cl11 : m_tckP 420 660 ((m_t420.drop 660).take 60) = true := by decide +kernel
theorem m_cl12 : m_tckP 420 720 ((m_t420.drop 720).take 60) = true := by decide +kernel
theorem m_cl13 : m_tckP 420 780 ((m_t420.drop 780).take 60) = true := by decide +kernel
theorem m_cl14 : m_tckP 420 840 ((m_t420.drop 840).take 60) = true := by decide +kernel
theorem m_cl15 : m_tckP 420 900 ((m_t420.drop 900).take 60) = true := by decide +kernel
theorem m_cl16 : m_tckP 420 960 ((m_t420.drop 960).take 60) = true := by decide +kernel
theorem m_cl17 : m_tckP 420 1020 ((m_t420.drop 1020).take 60) = true := by decide +kernel
theorem m_cl18 : m_tckP 420 1080 ((m_t420.drop 1080).take 60) = true := by decide +kernel
theorem m_cl19 : m_tckP 420 1140 ((m_t420.drop 1140).take 60) = true := by decide +kernel
theorem m_cl20 : m_tckP 420 1200 ((m_t420.drop 1200).take 60) = true := by decide +kernel
theorem m_cl21 : m_tckP 420 1260 ((m_t420.drop 1260).take 60) = true := by decide +kernel
theorem m_cl22 : m_tckP 420 1320 ((m_t420.drop 1320).take 60) = true := by decide +kernel
theorem m_cl23 : m_tckP 420 1380 ((m_t420.drop 1380).take 60) = true := by decide +kernel
theorem m_cl24 : m_tckP 420 1440 ((m_t420.drop 1440).take 60) = true := by decide +kernel
theorem m_cl25 : m_tckP 420 1500 ((m_t420.drop 1500).take 60) = true := by decide +kernel
theorem m_cl26 : m_tckP 420 1560 ((m_t420.drop 1560).take 60) = true := by decide +kernel
theorem m_cl27 : m_tckP 420 1620 ((m_t420.drop 1620).take 60) = true := by decide +kernel
theorem m_cl28 : m_tckP 420 1680 ((m_t420.drop 1680).take 60) = true := by decide +kernel
theorem m_cl29 : m_tckP 420 1740 ((m_t420.drop 1740).take 60) = true := by decide +kernel
theorem m_cl30 : m_tckP 420 1800 ((m_t420.drop 1800).take 60) = true := by decide +kernel
theorem m_cl31 : m_tckP 420 1860 ((m_t420.drop 1860).take 60) = true := by decide +kernel
theorem m_cl32 : m_tckP 420 1920 ((m_t420.drop 1920).take 60) = true := by decide +kernel
theorem m_cl33 : m_tckP 420 1980 ((m_t420.drop 1980).take 60) = true := by decide +kernel
theorem m_cl34 : m_tckP 420 2040 ((m_t420.drop 2040).take 60) = true := by decide +kernel
theorem m_cl35 : m_tckP 420 2100 ((m_t420.drop 2100).take 60) = true := by decide +kernel
theorem m_cl36 : m_tckP 420 2160 ((m_t420.drop 2160).take 60) = true := by decide +kernel
theorem m_cl37 : m_tckP 420 2220 ((m_t420.drop 2220).take 60) = true := by decide +kernel
theorem m_cl38 : m_tckP 420 2280 ((m_t420.drop 2280).take 60) = true := by decide +kernel
theorem m_cl39 : m_tckP 420 2340 ((m_t420.drop 2340).take 60) = true := by decide +kernel
theorem m_cl40 : m_tckP 420 2400 ((m_t420.drop 2400).take 60) = true := by decide +kernel
theorem m_cl41 : m_tckP 420 2460 ((m_t420.drop 2460).take 60) = true := by decide +kernel
theorem m_cl42 : m_tckP 420 2520 ((m_t420.drop 2520).take 60) = true := by decide +kernel
theorem m_tckP_of {M lo n pc : Nat} {tb : List (Option (Instr × LK))} (h : m_tckP M lo ((tb.drop lo).take n) = true) {i : Instr} {q : LK} (h1 : lo ≤ pc) (h2 : pc < lo + n) (ht : tb[pc]? = some (some (i, q))) : m_ick M pc i q = true := by
  unfold m_tckP at h
  rw [List.all_eq_true] at h
  have hx : ((tb.drop lo).take n)[pc - lo]? = some (some (i, q)) := by
    rw [List.getElem?_take_of_lt (by omega), List.getElem?_drop, show lo + (pc - lo) = pc by omega]
    exact ht
  have := h (some (i, q), pc - lo) (List.mem_zipIdx_iff_getElem?.mpr hx)
  dsimp only at this
  rwa [show lo + (pc - lo) = pc by omega] at this
theorem m_ick420 (pc : Nat) (i : Instr) (q : LK) (ht : m_t420[pc]? = some (some (i, q))) : m_ick 420 pc i q = true := by
  have hl := (List.getElem?_eq_some_iff.mp ht).1
  rw [m_ck420_len] at hl
  by_cases h0 : pc < 60
  · exact m_tckP_of m_cl0 (by omega) (by omega) ht
  by_cases h1 : pc < 120
  · exact m_tckP_of m_cl1 (by omega) (by omega) ht
  by_cases h2 : pc < 180
  · exact m_tckP_of m_cl2 (by omega) (by omega) ht
  by_cases h3 : pc < 240
  · exact m_tckP_of m_cl3 (by omega) (by omega) ht
  by_cases h4 : pc < 300
  · exact m_tckP_of m_cl4 (by omega) (by omega) ht
  by_cases h5 : pc < 360
  · exact m_tckP_of m_cl5 (by omega) (by omega) ht
  by_cases h6 : pc < 420
  · exact m_tckP_of m_cl6 (by omega) (by omega) ht
  by_cases h7 : pc < 480
  · exact m_tckP_of m_cl7 (by omega) (by omega) ht
  by_cases h8 : pc < 540
  · exact m_tckP_of m_cl8 (by omega) (by omega) ht
  by_cases h9 : pc < 600
  · exact m_tckP_of m_cl9 (by omega) (by omega) ht
  by_cases h10 : pc < 660
  · exact m_tckP_of m_cl10 (by omega) (by omega) ht
  by_cases h11 : pc < 720
  · exact m_tckP_of m_cl11 (by omega) (by omega) ht
  by_cases h12 : pc < 780
  · exact m_tckP_of m_cl12 (by omega) (by omega) ht
  by_cases h13 : pc < 840
  · exact m_tckP_of m_cl13 (by omega) (by omega) ht
  by_cases h14 : pc < 900
  · exact m_tckP_of m_cl14 (by omega) (by omega) ht
  by_cases h15 : pc < 960
  · exact m_tckP_of m_cl15 (by omega) (by omega) ht
  by_cases h16 : pc < 1020
  · exact m_tckP_of m_cl16 (by omega) (by omega) ht
  by_cases h17 : pc < 1080
  · exact m_tckP_of m_cl17 (by omega) (by omega) ht
  by_cases h18 : pc < 1140
  · exact m_tckP_of m_cl18 (by omega) (by omega) ht
  by_cases h19 : pc < 1200
  · exact m_tckP_of m_cl19 (by omega) (by omega) ht
  by_cases h20 : pc < 1260
  · exact m_tckP_of m_cl20 (by omega) (by omega) ht
  by_cases h21 : pc < 1320
  · exact m_tckP_of m_cl21 (by omega) (by omega) ht
  by_cases h22 : pc < 1380
  · exact m_tckP_of m_cl22 (by omega) (by omega) ht
  by_cases h23 : pc < 1440
  · exact m_tckP_of m_cl23 (by omega) (by omega) ht
  by_cases h24 : pc < 1500
  · exact m_tckP_of m_cl24 (by omega) (by omega) ht
  by_cases h25 : pc < 1560
  · exact m_tckP_of m_cl25 (by omega) (by omega) ht
  by_cases h26 : pc < 1620
  · exact m_tckP_of m_cl26 (by omega) (by omega) ht
  by_cases h27 : pc < 1680
  · exact m_tckP_of m_cl27 (by omega) (by omega) ht
  by_cases h28 : pc < 1740
  · exact m_tckP_of m_cl28 (by omega) (by omega) ht
  by_cases h29 : pc < 1800
  · exact m_tckP_of m_cl29 (by omega) (by omega) ht
  by_cases h30 : pc < 1860
  · exact m_tckP_of m_cl30 (by omega) (by omega) ht
  by_cases h31 : pc < 1920
  · exact m_tckP_of m_cl31 (by omega) (by omega) ht
  by_cases h32 : pc < 1980
  · exact m_tckP_of m_cl32 (by omega) (by omega) ht
  by_cases h33 : pc < 2040
  · exact m_tckP_of m_cl33 (by omega) (by omega) ht
  by_cases h34 : pc < 2100
  · exact m_tckP_of m_cl34 (by omega) (by omega) ht
  by_cases h35 : pc < 2160
  · exact m_tckP_of m_cl35 (by omega) (by omega) ht
  by_cases h36 : pc < 2220
  · exact m_tckP_of m_cl36 (by omega) (by omega) ht
  by_cases h37 : pc < 2280
  · exact m_tckP_of m_cl37 (by omega) (by omega) ht
  by_cases h38 : pc < 2340
  · exact m_tckP_of m_cl38 (by omega) (by omega) ht
  by_cases h39 : pc < 2400
  · exact m_tckP_of m_cl39 (by omega) (by omega) ht
  by_cases h40 : pc < 2460
  · exact m_tckP_of m_cl40 (by omega) (by omega) ht
  by_cases h41 : pc < 2520
  · exact m_tckP_of m_cl41 (by omega) (by omega) ht
  exact m_tckP_of m_cl42 (by omega) (by omega) ht
