/-! NUMBERS OF THE SMALL MACHINE -/
theorem m_ofInt {v : Int} (h1 : -2147483648 ≤ v) (h2 : v < 2147483648) : (Int32.ofInt v).toInt = v := by
  rw [Int32.toInt_ofInt, show Int32.size = 4294967296 from rfl, w32_bmod, w32_of h1 h2]
theorem m_ofInt8 {v : Int} (h1 : -128 ≤ v) (h2 : v < 128) : (Int8.ofInt v).toInt32.toInt = v := by
  rw [Int8.toInt_toInt32, Int8.toInt_ofInt, show Int8.size = 256 from rfl]
  unfold Int.bmod
  dsimp only
  split <;> omega
theorem m_ofInt16 {v : Int} (h1 : -32768 ≤ v) (h2 : v < 32768) : (Int16.ofInt v).toInt32.toInt = v := by
  rw [Int16.toInt_toInt32, Int16.toInt_ofInt, show Int16.size = 65536 from rfl]
  unfold Int.bmod
  dsimp only
  split <;> omega
theorem m_st_len {ls ls' : ML} {i : Nat} {v : MV} (h : m_st ls i v = some ls') : i + m_cat v ≤ ls.length := by
  unfold m_st at h
  split at h
  · assumption
  · cases h
theorem m_un (X : Int32) : (X.toInt % 4294967296).toNat = X.toBitVec.toNat ∧ X.toInt = w32 X.toBitVec.toNat := by
  have h1 : X.toInt = X.toBitVec.toInt := rfl
  have h2 := BitVec.toInt_eq_toNat_bmod X.toBitVec
  have h3 : X.toInt = w32 X.toBitVec.toNat := by rw [h1, h2, ← w32_bmod]
  refine ⟨?_, h3⟩
  have h4 : X.toBitVec.toNat < 4294967296 := X.toBitVec.isLt
  rw [h3]
  unfold w32
  omega
theorem m_iand (X Y : Int32) : (X &&& Y).toInt = m_and X.toInt Y.toInt := by
  unfold m_and
  rw [(m_un X).1, (m_un Y).1, (m_un (X &&& Y)).2, Int32.toBitVec_and, BitVec.toNat_and]
theorem m_ior (X Y : Int32) : (X ||| Y).toInt = m_or X.toInt Y.toInt := by
  unfold m_or
  rw [(m_un X).1, (m_un Y).1, (m_un (X ||| Y)).2, Int32.toBitVec_or, BitVec.toNat_or]
theorem m_nI {Y : Int32} (h0 : 0 ≤ Y.toInt) : ∃ n : Nat, Y = nI n ∧ (n : Int) = Y.toInt := by
  refine ⟨Y.toInt.toNat, ?_, by omega⟩
  apply Int32.toInt_inj.mp
  have h := m_rng Y
  show _ = (Int32.ofNat _).toInt
  rw [← Int32.ofInt_eq_ofNat, m_ofInt (by omega) (by omega)]
  omega
theorem m_sl : ∀ n, n < 32 → ((nI n &&& 31).toBitVec.smod 32).toNat = n := by decide +kernel
theorem m_su : ∀ n, n < 32 → (((nI n).toUInt32 &&& Int32.toUInt32 31).toBitVec % 32).toNat = n := by decide +kernel
theorem m_ishl (X Y : Int32) (h0 : 0 ≤ Y.toInt) (h1 : Y.toInt < 32) : (X <<< (Y &&& 31)).toInt = m_shl X.toInt Y.toInt := by
  obtain ⟨n, rfl, hn⟩ := m_nI h0
  unfold m_shl
  rw [← hn, (m_un (X <<< (nI n &&& 31))).2, Int32.toBitVec_shiftLeft]
  rw [show (X.toBitVec <<< ((nI n &&& 31).toBitVec.smod 32)).toNat = (X.toBitVec <<< (((nI n &&& 31).toBitVec.smod 32).toNat)).toNat from rfl, m_sl n (by omega), BitVec.toNat_shiftLeft, Nat.shiftLeft_eq, Int.toNat_natCast, (m_un X).2]
  have a : ∀ p q : Int, (p - q) % 4294967296 = 0 → w32 p = w32 q := fun p q h => by unfold w32; omega
  apply a
  have b : (w32 (X.toBitVec.toNat : Int) - (X.toBitVec.toNat : Int)) % 4294967296 = 0 := by unfold w32; omega
  obtain ⟨k, hk⟩ := Int.dvd_of_emod_eq_zero b
  have e : w32 (X.toBitVec.toNat : Int) = (X.toBitVec.toNat : Int) + 4294967296 * k := by omega
  rw [e, Int.add_mul, Int.mul_assoc]
  have c : (((X.toBitVec.toNat * 2 ^ n % 2 ^ 32 : Nat)) : Int) = ((X.toBitVec.toNat : Int) * 2 ^ n) % 4294967296 := by
    rw [Int.natCast_emod, Int.natCast_mul, Int.natCast_pow]
    rfl
  rw [c]
  omega
theorem m_ishr (X Y : Int32) (h0 : 0 ≤ Y.toInt) (h1 : Y.toInt < 32) : (X >>> (Y &&& 31)).toInt = m_shr X.toInt Y.toInt := by
  obtain ⟨n, rfl, hn⟩ := m_nI h0
  unfold m_shr
  rw [← hn]
  have h2 : (X >>> (nI n &&& 31)).toInt = (X.toBitVec.sshiftRight ((nI n &&& 31).toBitVec.smod 32).toNat).toInt := rfl
  rw [h2, m_sl n (by omega), BitVec.toInt_sshiftRight, Int.shiftRight_eq_div_pow, Int.toNat_natCast]
  rfl
theorem m_iushr (X Y : Int32) (h0 : 0 ≤ Y.toInt) (h1 : Y.toInt < 32) : ((X.toUInt32 >>> (Y.toUInt32 &&& Int32.toUInt32 31)).toInt32).toInt = m_ushr X.toInt Y.toInt := by
  obtain ⟨n, rfl, hn⟩ := m_nI h0
  unfold m_ushr
  rw [← hn, (m_un _).2]
  have h2 : ((X.toUInt32 >>> ((nI n).toUInt32 &&& Int32.toUInt32 31)).toInt32).toBitVec.toNat = X.toBitVec.toNat / 2 ^ n := by
    show (X.toBitVec >>> (((nI n).toUInt32 &&& Int32.toUInt32 31).toBitVec % 32)).toNat = _
    rw [show (X.toBitVec >>> (((nI n).toUInt32 &&& Int32.toUInt32 31).toBitVec % 32)).toNat = (X.toBitVec >>> ((((nI n).toUInt32 &&& Int32.toUInt32 31).toBitVec % 32).toNat)).toNat from rfl, m_su n (by omega), BitVec.toNat_ushiftRight, Nat.shiftRight_eq_div_pow]
  rw [h2, Int.toNat_natCast]
  have h3 : X.toInt % 4294967296 = (X.toBitVec.toNat : Int) := by
    have h4 := (m_un X).1
    have h5 : 0 ≤ X.toInt % 4294967296 := Int.emod_nonneg _ (by decide)
    omega
  rw [h3, Int.natCast_ediv, Int.natCast_pow]
  rfl
theorem m_lcmp (X Y : Int64) : (lg_cmp X Y).toInt = if X.toInt < Y.toInt then -1 else if X.toInt = Y.toInt then 0 else 1 := by
  unfold lg_cmp
  simp only [gt_iff_lt, Int64.lt_iff_toInt_lt, ← Int64.toInt_inj]
  split
  · rw [if_neg (by omega), if_neg (by omega)]; rfl
  · split
    · rw [if_neg (by omega)]; rfl
    · rw [if_pos (by omega)]; rfl
theorem m_i2l (X : Int32) : X.toInt64.toInt = X.toInt := Int32.toInt_toInt64 X
theorem m_i2cc (X : Int32) : ((X.toUInt32 % 65536).toInt32).toInt = X.toInt % 65536 := by
  rw [(m_un _).2]
  have h2 : ((X.toUInt32 % 65536).toInt32).toBitVec.toNat = X.toBitVec.toNat % 65536 := rfl
  rw [h2]
  have h3 := (m_un X).2
  have h4 : X.toBitVec.toNat < 4294967296 := X.toBitVec.isLt
  unfold w32 at *
  omega
theorem m_i2bb (X : Int32) : (X.toInt8.toInt32).toInt = (X.toInt + 128) % 256 - 128 := by
  rw [Int8.toInt_toInt32, Int32.toInt_toInt8]
  unfold Int.bmod
  dsimp only
  split <;> omega
theorem m_z32 : (0 : Int32).toInt = 0 := rfl
theorem m_ifeq (X : Int32) : X = 0 ↔ X.toInt = 0 := by rw [← Int32.toInt_inj, m_z32]
theorem m_ifne (X : Int32) : ¬ X = 0 ↔ ¬ X.toInt = 0 := by rw [← Int32.toInt_inj, m_z32]
theorem m_iflt (X : Int32) : X < 0 ↔ X.toInt < 0 := by rw [Int32.lt_iff_toInt_lt, m_z32]
theorem m_ifge (X : Int32) : 0 ≤ X ↔ ¬ X.toInt < 0 := by rw [Int32.le_iff_toInt_le, m_z32]; omega
theorem m_ifgt (X : Int32) : 0 < X ↔ 0 < X.toInt := by rw [Int32.lt_iff_toInt_lt, m_z32]
theorem m_ifle (X : Int32) : X ≤ 0 ↔ ¬ 0 < X.toInt := by rw [Int32.le_iff_toInt_le, m_z32]; omega
theorem m_iceq (X Y : Int32) : X = Y ↔ X.toInt = Y.toInt := by rw [← Int32.toInt_inj]
theorem m_icne (X Y : Int32) : ¬ X = Y ↔ ¬ X.toInt = Y.toInt := by rw [← Int32.toInt_inj]
theorem m_iclt (X Y : Int32) : X < Y ↔ X.toInt < Y.toInt := Int32.lt_iff_toInt_lt
theorem m_icge (X Y : Int32) : Y ≤ X ↔ ¬ X.toInt < Y.toInt := by rw [Int32.le_iff_toInt_le]; omega
theorem m_icgt (X Y : Int32) : Y < X ↔ Y.toInt < X.toInt := Int32.lt_iff_toInt_lt
theorem m_icle (X Y : Int32) : X ≤ Y ↔ ¬ Y.toInt < X.toInt := by rw [Int32.le_iff_toInt_le]; omega
theorem m_vpin {X : Int32} {n : Nat} (h0 : 0 ≤ X.toInt) (h1 : X.toInt < n) : vp_in X n := by
  unfold vp_in
  rw [Int32.lt_iff_toInt_lt, m_z32]
  show ¬ (X.toInt < 0 ∨ n ≤ X.toInt.toNat)
  omega
theorem m_nar_char {X : Int32} (h0 : 0 ≤ X.toInt) (h1 : X.toInt < 65536) : narrow .char (.int X) = .int X := by
  show Value.int (X.toUInt32.toUInt16.toUInt32.toInt32) = .int X
  congr 1
  apply Int32.toInt_inj.mp
  rw [(m_un _).2]
  have h2 : (X.toUInt32.toUInt16.toUInt32.toInt32).toBitVec.toNat = X.toBitVec.toNat % 65536 := by
    show (BitVec.setWidth 32 (BitVec.setWidth 16 X.toBitVec)).toNat = _
    rw [BitVec.toNat_setWidth, BitVec.toNat_setWidth]
    omega
  rw [h2]
  have h3 := (m_un X).2
  have h4 : X.toBitVec.toNat < 4294967296 := X.toBitVec.isLt
  unfold w32 at *
  omega
theorem m_nar_bool {X : Int32} (h : X.toInt = 0 ∨ X.toInt = 1) : narrow .boolean (.int X) = .int X := by
  have : X = 0 ∨ X = 1 := by
    rcases h with h | h
    · exact Or.inl (Int32.toInt_inj.mp h)
    · exact Or.inr (Int32.toInt_inj.mp h)
  rcases this with rfl | rfl <;> rfl
theorem m_un6 (X : Int64) : X.toInt % 18446744073709551616 = (X.toBitVec.toNat : Int) ∧ X.toInt = w64 (X.toBitVec.toNat : Int) := by
  have h1 : X.toInt = X.toBitVec.toInt := rfl
  have h2 := BitVec.toInt_eq_toNat_bmod X.toBitVec
  have h3 : X.toInt = w64 X.toBitVec.toNat := by rw [h1, h2, ← w64_bmod]
  refine ⟨?_, h3⟩
  have h4 : X.toBitVec.toNat < 18446744073709551616 := X.toBitVec.isLt
  rw [h3]
  unfold w64
  omega
theorem m_land6 (X Y : Int64) : (X &&& Y).toInt = m_land X.toInt Y.toInt := by
  unfold m_land
  rw [(m_un6 X).1, (m_un6 Y).1, (m_un6 (X &&& Y)).2, Int64.toBitVec_and, BitVec.toNat_and]
  rfl
theorem m_lor6 (X Y : Int64) : (X ||| Y).toInt = m_lor X.toInt Y.toInt := by
  unfold m_lor
  rw [(m_un6 X).1, (m_un6 Y).1, (m_un6 (X ||| Y)).2, Int64.toBitVec_or, BitVec.toNat_or]
  rfl
theorem m_lxor6 (X Y : Int64) : (X ^^^ Y).toInt = m_lxor X.toInt Y.toInt := by
  unfold m_lxor
  rw [(m_un6 X).1, (m_un6 Y).1, (m_un6 (X ^^^ Y)).2, Int64.toBitVec_xor, BitVec.toNat_xor]
  rfl
theorem m_sl6 : ∀ n, n < 64 → (((nI n).toInt64 &&& 63).toBitVec.smod 64).toNat = n := by decide +kernel
theorem m_lshl6 (X : Int64) (Y : Int32) (h0 : 0 ≤ Y.toInt) (h1 : Y.toInt < 64) : (X <<< (Y.toInt64 &&& 63)).toInt = m_lshl X.toInt Y.toInt := by
  obtain ⟨n, rfl, hn⟩ := m_nI h0
  unfold m_lshl
  rw [← hn, (m_un6 (X <<< ((nI n).toInt64 &&& 63))).2, Int64.toBitVec_shiftLeft]
  rw [show (X.toBitVec <<< (((nI n).toInt64 &&& 63).toBitVec.smod 64)).toNat = (X.toBitVec <<< ((((nI n).toInt64 &&& 63).toBitVec.smod 64).toNat)).toNat from rfl, m_sl6 n (by omega), BitVec.toNat_shiftLeft, Nat.shiftLeft_eq, Int.toNat_natCast, (m_un6 X).2]
  have a : ∀ p q : Int, (p - q) % 18446744073709551616 = 0 → w64 p = w64 q := fun p q h => by unfold w64; omega
  apply a
  have b : (w64 (X.toBitVec.toNat : Int) - (X.toBitVec.toNat : Int)) % 18446744073709551616 = 0 := by unfold w64; omega
  obtain ⟨k, hk⟩ := Int.dvd_of_emod_eq_zero b
  have e : w64 (X.toBitVec.toNat : Int) = (X.toBitVec.toNat : Int) + 18446744073709551616 * k := by omega
  rw [e, Int.add_mul, Int.mul_assoc]
  have c : (((X.toBitVec.toNat * 2 ^ n % 2 ^ 64 : Nat)) : Int) = ((X.toBitVec.toNat : Int) * 2 ^ n) % 18446744073709551616 := by
    rw [Int.natCast_emod, Int.natCast_mul, Int.natCast_pow]
    rfl
  rw [c]
  omega
theorem m_lshr6 (X : Int64) (Y : Int32) (h0 : 0 ≤ Y.toInt) (h1 : Y.toInt < 64) : (X >>> (Y.toInt64 &&& 63)).toInt = m_shr X.toInt Y.toInt := by
  obtain ⟨n, rfl, hn⟩ := m_nI h0
  unfold m_shr
  rw [← hn]
  have h2 : (X >>> ((nI n).toInt64 &&& 63)).toInt = (X.toBitVec.sshiftRight (((nI n).toInt64 &&& 63).toBitVec.smod 64).toNat).toInt := rfl
  rw [h2, m_sl6 n (by omega), BitVec.toInt_sshiftRight, Int.shiftRight_eq_div_pow, Int.toNat_natCast]
  rfl
theorem m_l2i6 (X : Int64) : X.toInt32.toInt = w32 X.toInt := by
  rw [Int64.toInt_toInt32, ← w32_bmod]
