/-! THE LAW'S OWN ROWS: eight signs of seven bits in a long -/
def dgt (v : Int) (k : Nat) : Int := v / 2 ^ (7 * k) % 128
theorem dgt_rng (v : Int) (k : Nat) : 0 ≤ dgt v k ∧ dgt v k < 128 := by unfold dgt; omega
theorem la_127 {x : Int} (h : 0 ≤ x ∧ x < 72057594037927936) : m_land x 127 = x % 128 := by
  unfold m_land
  have e1 : x % 18446744073709551616 = x := by omega
  have e2 : ((127 : Int) % 18446744073709551616).toNat = 2 ^ 7 - 1 := rfl
  rw [e1, e2, Nat.and_two_pow_sub_one_eq_mod]
  have e3 : ((x.toNat % 2 ^ 7 : Nat) : Int) = x % 128 := by
    show ((x.toNat % 128 : Nat) : Int) = x % 128
    omega
  rw [e3]
  exact w64_of (by omega) (by omega)
theorem shr_rng {v : Int} {j : Nat} (h : 0 ≤ v ∧ v < 72057594037927936) : 0 ≤ v / 2 ^ j ∧ v / 2 ^ j < 72057594037927936 := by
  have h1 : (0 : Int) < 2 ^ j := Int.pow_pos (by decide)
  have h2 : v / 2 ^ j ≤ v := Int.ediv_le_self _ h.1
  exact ⟨Int.ediv_nonneg h.1 (Int.le_of_lt h1), by omega⟩
/-- what charAt reads -/
theorem rd_201 {v : Int} {j : Nat} (h : 0 ≤ v ∧ v < 72057594037927936) : w32 (m_land (m_shr v (7 * (j : Int))) 127) = dgt v j := by
  unfold m_shr dgt
  have e : (7 * (j : Int)).toNat = 7 * j := by omega
  rw [e]
  generalize hy : v / 2 ^ (7 * j) = y
  have hr : 0 ≤ y ∧ y < 72057594037927936 := by rw [← hy]; exact shr_rng h
  rw [la_127 hr]
  exact w32_of (by omega) (by omega)
theorem nb_lt {V C j : Nat} (hV : V < 2 ^ 56) (hC : C < 128) (hj : j < 8) : (V &&& ((127 * 2 ^ (7 * j)) ^^^ (2 ^ 64 - 1))) ||| (C * 2 ^ (7 * j)) < 2 ^ 56 := by
  refine Nat.or_lt_two_pow (Nat.lt_of_le_of_lt Nat.and_le_left hV) ?_
  have h7 : j = 0 ∨ j = 1 ∨ j = 2 ∨ j = 3 ∨ j = 4 ∨ j = 5 ∨ j = 6 ∨ j = 7 := by omega
  rcases h7 with rfl | rfl | rfl | rfl | rfl | rfl | rfl | rfl <;> omega
theorem nb_bit {V C j m : Nat} (hm : m < 64) : ((V &&& ((127 * 2 ^ (7 * j)) ^^^ (2 ^ 64 - 1))) ||| (C * 2 ^ (7 * j))).testBit m = ((V.testBit m && !(decide (7 * j ≤ m) && decide (m - 7 * j < 7))) || (decide (7 * j ≤ m) && C.testBit (m - 7 * j))) := by
  rw [Nat.testBit_or, Nat.testBit_and, Nat.testBit_xor, Nat.testBit_mul_two_pow, Nat.testBit_mul_two_pow, Nat.testBit_two_pow_sub_one, show (127 : Nat) = 2 ^ 7 - 1 from rfl, Nat.testBit_two_pow_sub_one, decide_eq_true hm, Bool.xor_true]
theorem nb_dg {V C j i : Nat} (hC : C < 128) (hj : j < 8) (hi : i < 8) : ((V &&& ((127 * 2 ^ (7 * j)) ^^^ (2 ^ 64 - 1))) ||| (C * 2 ^ (7 * j))) / 2 ^ (7 * i) % 2 ^ 7 = if i = j then C else V / 2 ^ (7 * i) % 2 ^ 7 := by
  apply Nat.eq_of_testBit_eq
  intro b
  rw [Nat.testBit_mod_two_pow, Nat.testBit_div_two_pow]
  by_cases hb : b < 7
  · rw [decide_eq_true hb, Bool.true_and, nb_bit (by omega)]
    by_cases e : i = j
    · subst e
      rw [if_pos rfl, decide_eq_true (show 7 * i ≤ b + 7 * i by omega), show b + 7 * i - 7 * i = b by omega, decide_eq_true hb]
      simp
    · rw [if_neg e, Nat.testBit_mod_two_pow, Nat.testBit_div_two_pow, decide_eq_true hb, Bool.true_and]
      by_cases h1 : 7 * j ≤ b + 7 * i
      · have h2 : 7 ≤ b + 7 * i - 7 * j := by omega
        have h3 : C.testBit (b + 7 * i - 7 * j) = false := Nat.testBit_lt_two_pow (Nat.lt_of_lt_of_le (show C < 2 ^ 7 from hC) (Nat.pow_le_pow_right (by decide) h2))
        rw [h3, decide_eq_false (show ¬ b + 7 * i - 7 * j < 7 by omega)]
        simp
      · rw [decide_eq_false h1]
        simp
  · rw [decide_eq_false hb, Bool.false_and]
    by_cases e : i = j
    · rw [if_pos e]
      exact (Nat.testBit_lt_two_pow (Nat.lt_of_lt_of_le (show C < 2 ^ 7 from hC) (Nat.pow_le_pow_right (by decide) (by omega)))).symm
    · rw [if_neg e, Nat.testBit_mod_two_pow, decide_eq_false hb, Bool.false_and]
theorem w64_md {w : Nat} (h : w < 18446744073709551616) : w64 (w : Int) % 18446744073709551616 = (w : Int) := by
  unfold w64
  omega
def sgv (v c : Int) (j : Nat) : Int := m_lor (m_land v (m_lxor (m_lshl 127 (7 * (j : Int))) (-1))) (m_lshl c (7 * (j : Int)))
theorem sgv_nat {v c : Int} {j : Nat} (hv : 0 ≤ v ∧ v < 72057594037927936) (hc : 0 ≤ c ∧ c < 128) (hj : j < 8) : sgv v c j = (((v.toNat &&& ((127 * 2 ^ (7 * j)) ^^^ (2 ^ 64 - 1))) ||| (c.toNat * 2 ^ (7 * j)) : Nat) : Int) := by
  have hp : (2 : Nat) ^ (7 * j) ≤ 562949953421312 := by
    have h7 : j = 0 ∨ j = 1 ∨ j = 2 ∨ j = 3 ∨ j = 4 ∨ j = 5 ∨ j = 6 ∨ j = 7 := by omega
    rcases h7 with rfl | rfl | rfl | rfl | rfl | rfl | rfl | rfl <;> decide
  have hj7 : (7 * (j : Int)).toNat = 7 * j := by omega
  have hz := nb_lt (V := v.toNat) (C := c.toNat) (j := j) (by omega) (by omega) hj
  have s1 : m_lshl 127 (7 * (j : Int)) = ((127 * 2 ^ (7 * j) : Nat) : Int) := by
    unfold m_lshl
    rw [hj7]
    have e : (127 : Int) * 2 ^ (7 * j) = ((127 * 2 ^ (7 * j) : Nat) : Int) := by rw [Int.natCast_mul, Int.natCast_pow]; rfl
    rw [e]
    exact w64_of (by omega) (by omega)
  have s2 : m_lshl c (7 * (j : Int)) = ((c.toNat * 2 ^ (7 * j) : Nat) : Int) := by
    unfold m_lshl
    rw [hj7]
    have e : c * 2 ^ (7 * j) = ((c.toNat * 2 ^ (7 * j) : Nat) : Int) := by rw [Int.natCast_mul, Int.natCast_pow, Int.toNat_of_nonneg hc.1]; rfl
    rw [e]
    have hcm : c.toNat * 2 ^ (7 * j) ≤ 127 * 562949953421312 := Nat.mul_le_mul (by omega) hp
    generalize c.toNat * 2 ^ (7 * j) = w at hcm ⊢
    exact w64_of (by omega) (by omega)
  unfold sgv
  rw [s1, s2]
  have hA : 127 * 2 ^ (7 * j) < 2 ^ 64 := by omega
  generalize hAe : 127 * 2 ^ (7 * j) = A at hA hz ⊢
  have s3 : (m_lxor (A : Int) (-1)) % 18446744073709551616 = ((A ^^^ (2 ^ 64 - 1) : Nat) : Int) := by
    unfold m_lxor
    have e1 : ((A : Int) % 18446744073709551616).toNat = A := by omega
    have e2 : ((-1 : Int) % 18446744073709551616).toNat = 2 ^ 64 - 1 := rfl
    rw [e1, e2]
    have hx : A ^^^ (2 ^ 64 - 1) < 2 ^ 64 := Nat.xor_lt_two_pow hA (by decide)
    generalize A ^^^ (2 ^ 64 - 1) = w at hx ⊢
    exact w64_md hx
  have hB : c.toNat * 2 ^ (7 * j) < 2 ^ 56 := by
    have hcm : c.toNat * 2 ^ (7 * j) ≤ 127 * 562949953421312 := Nat.mul_le_mul (by omega) hp
    omega
  generalize c.toNat * 2 ^ (7 * j) = B at hB hz ⊢
  have s4 : m_land v (m_lxor (A : Int) (-1)) = ((v.toNat &&& (A ^^^ (2 ^ 64 - 1)) : Nat) : Int) := by
    unfold m_land
    rw [s3, Int.toNat_natCast, show v % 18446744073709551616 = v by omega]
    have hx : v.toNat &&& (A ^^^ (2 ^ 64 - 1)) ≤ v.toNat := Nat.and_le_left
    generalize v.toNat &&& (A ^^^ (2 ^ 64 - 1)) = w at hx ⊢
    exact w64_of (by omega) (by omega)
  rw [s4]
  have hY : v.toNat &&& (A ^^^ (2 ^ 64 - 1)) ≤ v.toNat := Nat.and_le_left
  generalize v.toNat &&& (A ^^^ (2 ^ 64 - 1)) = Y at hY hz ⊢
  unfold m_lor
  rw [show ((Y : Int) % 18446744073709551616).toNat = Y by omega, show ((B : Int) % 18446744073709551616).toNat = B by omega]
  generalize Y ||| B = w at hz ⊢
  exact w64_of (by omega) (by omega)
theorem sgv_rng {v c : Int} {j : Nat} (hv : 0 ≤ v ∧ v < 72057594037927936) (hc : 0 ≤ c ∧ c < 128) (hj : j < 8) : 0 ≤ sgv v c j ∧ sgv v c j < 72057594037927936 := by
  rw [sgv_nat hv hc hj]
  have := nb_lt (V := v.toNat) (C := c.toNat) (j := j) (by omega) (by omega) hj
  generalize (v.toNat &&& ((127 * 2 ^ (7 * j)) ^^^ (2 ^ 64 - 1))) ||| (c.toNat * 2 ^ (7 * j)) = w at this ⊢
  omega
theorem dgt_nat {V i : Nat} : dgt ((V : Nat) : Int) i = ((V / 2 ^ (7 * i) % 2 ^ 7 : Nat) : Int) := by
  unfold dgt
  rw [Int.natCast_emod, Int.natCast_ediv, Int.natCast_pow]
  rfl
/-- what sets writes -/
theorem dgt_sgv {v c : Int} {j i : Nat} (hv : 0 ≤ v ∧ v < 72057594037927936) (hc : 0 ≤ c ∧ c < 128) (hj : j < 8) (hi : i < 8) : dgt (sgv v c j) i = if i = j then c else dgt v i := by
  rw [sgv_nat hv hc hj, dgt_nat, nb_dg (by omega) hj hi]
  split
  · omega
  · rw [show v = ((v.toNat : Nat) : Int) by omega, dgt_nat]
    rfl
