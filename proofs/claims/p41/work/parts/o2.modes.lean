/-! THE LAW'S OWN ROWS: modes as bits, how many lines are looked at, how many are otherwise -/
def LL (L : Nat → Int) (X : Nat → List Int) : Prop := ∀ r, r < 24 → L r = ((X r).length : Int)
def fil (X : Nat → List Int) (f : Nat) : Nat → List Int := fun m => X (8 * f + m)
/-- the modes behind the lines, as bits -/
def BS (x : Int) (b : Nat → Bool) (q : Nat) : Prop := 0 ≤ x ∧ x < 256 ∧ (∀ i, i < q → x.toNat.testBit i = b i) ∧ ∀ i, q ≤ i → x.toNat.testBit i = false
section Mo2
variable {n n1 n2 n3 m k f q ln : Nat} {F : MF} {X Y S : Nat → List Int} {x B : Int} {b : Nat → Bool}
theorem or_bit : ∀ q, q < 8 → ∀ x, x < 256 → m_or ((x : Nat) : Int) (m_shl 1 ((q : Nat) : Int)) = ((x ||| 2 ^ q : Nat) : Int) := by decide +kernel
theorem or_zero : ∀ x, x < 256 → m_or ((x : Nat) : Int) 0 = ((x : Nat) : Int) := by decide +kernel
theorem and_bit : ∀ q, q < 8 → ∀ x, x < 256 → m_and (m_shr ((x : Nat) : Int) ((q : Nat) : Int)) 1 = (if x.testBit q = true then 1 else 0) := by decide +kernel
theorem BS.lt (h : BS x b q) (hq : q ≤ 7) : x.toNat < 2 ^ q := by
  refine Nat.lt_pow_two_of_testBit _ (fun i hi => h.2.2.2 i hi)
theorem BS.z (h : BS x b q) (hb : b q = false) : BS x b (q + 1) := ⟨h.1, h.2.1, fun i hi => by
  by_cases e : i = q
  · rw [e, hb]; exact h.2.2.2 q (Nat.le_refl q)
  · exact h.2.2.1 i (by omega), fun i hi => h.2.2.2 i (by omega)⟩
theorem BS.o (h : BS x b q) (hq : q < 8) (hb : b q = true) : BS (m_or x (m_shl 1 (q : Int))) b (q + 1) := by
  have hx := h.1
  have hx2 := h.2.1
  have e := or_bit q hq x.toNat (by omega)
  rw [show ((x.toNat : Nat) : Int) = x by omega] at e
  rw [e]
  have hlt : x.toNat ||| 2 ^ q < 2 ^ 8 := Nat.or_lt_two_pow (by omega) (Nat.pow_lt_pow_right (by decide) hq)
  have hlt : x.toNat ||| 2 ^ q < 256 := hlt
  refine ⟨by omega, by omega, fun i hi => ?_, fun i hi => ?_⟩
  · rw [Int.toNat_natCast, Nat.testBit_or, Nat.testBit_two_pow]
    by_cases e : i = q
    · rw [e, hb, decide_eq_true rfl, Bool.or_true]
    · rw [decide_eq_false (fun e2 => e e2.symm), Bool.or_false]
      exact h.2.2.1 i (by omega)
  · rw [Int.toNat_natCast, Nat.testBit_or, Nat.testBit_two_pow, decide_eq_false (by omega), Bool.or_false]
    exact h.2.2.2 i (by omega)
theorem BS.at (h : BS x b 8) (hq : q < 8) : m_and (m_shr x (q : Int)) 1 = 1 ↔ b q = true := by
  have hx := h.1
  have hx2 := h.2.1
  have e := and_bit q hq x.toNat (by omega)
  rw [show ((x.toNat : Nat) : Int) = x by omega] at e
  rw [e, h.2.2.1 q hq]
  cases b q with
  | false => decide
  | true => decide
theorem BS_0 : BS 0 b 0 := ⟨by decide, by decide, fun i hi => absurd hi (Nat.not_lt_zero i), fun i _ => Nat.zero_testBit i⟩
theorem l_209 (hk : m_KD[n]? = some (101, 24)) (hk1 : m_KD[n1]? = some (100, 24)) (hS : St F) (hf : f < 3) (hT : TPw (F n) (fil X f)) (hL : LL (F n1) X) : ∀ (d q : Nat) (x : Int), q + d = 8 → BS x (fun i => md X f (i + 1)) q →
    L_209_8 n n1 (f : Int) x (bi (md X f q)) (q : Int) F (fun r F' => BS r (fun i => md X f (i + 1)) 8 ∧ F' = F) m_no := by
  intro d
  induction d with
  | zero =>
    intro q x hq hb
    obtain rfl : q = 8 := by omega
    exact b_209_8 hk hk1 hS ⟨fun h => by omega, fun _ => ⟨hb, rfl⟩⟩
  | succ d ih =>
    intro q x hq hb
    refine b_209_8 hk hk1 hS ⟨fun _ => ⟨by omega, by omega, by omega, ?_⟩, fun h => by omega⟩
    rw [show ((8 * (f : Int)) + (q : Int)).toNat = 8 * f + q by omega, hL _ (by omega)]
    have s := s_204 (b := md X f q) hk hS hT (show q < 8 by omega)
    refine CaI.on s ?_
    rintro r F1 hS1 ⟨rfl, rfl⟩
    have e : modeL 24 (fil X f q) 0 (md X f q) = md X f (q + 1) := rfl
    rw [e]
    cases hmd : md X f (q + 1) with
    | false =>
      refine ⟨fun _ => ⟨by omega, ?_⟩, fun h => absurd rfl h⟩
      have hz : m_or x 0 = x := by
        have := or_zero x.toNat (by have := hb.2.1; omega)
        rwa [show ((x.toNat : Nat) : Int) = x by have := hb.1; omega] at this
      rw [hz]
      have := ih (q + 1) x (by omega) (hb.z hmd)
      rw [hmd, show (((q + 1 : Nat)) : Int) = (q : Int) + 1 by omega] at this
      exact this
    | true =>
      refine ⟨fun h => absurd h (by decide), fun _ => ⟨by omega, by omega, ?_⟩⟩
      have := ih (q + 1) _ (by omega) (hb.o (by omega) hmd)
      rw [hmd, show (((q + 1 : Nat)) : Int) = (q : Int) + 1 by omega] at this
      exact this
/-- modes -/
theorem s_209 (hk : m_KD[n]? = some (101, 24)) (hk1 : m_KD[n1]? = some (100, 24)) (hS : St F) (hf : f < 3) (hT : TPw (F n) (fil X f)) (hL : LL (F n1) X) : C_209 n n1 (f : Int) F (fun r F' => BS r (fun i => md X f (i + 1)) 8 ∧ F' = F) m_no :=
  c_209 hk hk1 hS (l_209 hk hk1 hS hf hT hL 8 0 0 rfl BS_0)
theorem l_208b {many : Nat} (hk : m_KD[n]? = some (101, 24)) (hk1 : m_KD[n1]? = some (100, 24)) (hS : St F) (hm : many < 100) (hq : q < 8) (hln : ln ≤ q) (hB : BS B (fun i => md X f (i + 1)) 8)
    {v : Bool} {R : Int → MF → Prop} (hy : v = md X f (q + 1) → R ((many : Int) + 1) F) (hn : v ≠ md X f (q + 1) → L_208_12 n n1 (f : Int) (ln : Int) B ((many : Int) + 1) (bi v) 1 ((q : Int) + 1) F R m_no) :
    L_208_49 n n1 (f : Int) (ln : Int) B (many : Int) (bi v) (q : Int) F R m_no := by
  have hb := hB.at hq
  refine b_208_49 hk hk1 hS ⟨by omega, by omega, ⟨fun h => ⟨fun h2 => ⟨fun h3 => by omega, fun _ => ?_⟩, fun h2 => ⟨fun h3 => by omega, fun _ => ⟨by omega, ?_⟩⟩⟩, fun h => ⟨fun h2 => ⟨fun h3 => by omega, fun _ => ?_⟩, fun h2 => ⟨fun h3 => by omega, fun _ => ⟨by omega, ?_⟩⟩⟩⟩⟩
  · refine hy ?_
    rw [hb.mp h]
    cases v
    · cases h2
    · rfl
  · refine hn (fun e => h2 ?_)
    rw [e, hb.mp h]
    rfl
  · refine hy ?_
    cases hmd : md X f (q + 1) with
    | true => exact absurd (hb.mpr hmd) h
    | false =>
      cases v
      · rfl
      · cases h2
  · refine hn (fun e => h2 ?_)
    cases hmd : md X f (q + 1) with
    | true => exact absurd (hb.mpr hmd) h
    | false => rw [e, hmd]; rfl
theorem l_208a (hk : m_KD[n]? = some (101, 24)) (hk1 : m_KD[n1]? = some (100, 24)) (hS : St F) (hf : f < 3) (hT : TPw (F n) (fil Y f)) (hL : LL (F n1) Y) (hB : BS B (fun i => md X f (i + 1)) 8) : ∀ (d q many : Nat), q + d = 8 → ln < q → many + d < 100 →
    L_208_12 n n1 (f : Int) (ln : Int) B (many : Int) (bi (md Y f q)) 1 (q : Int) F (fun r F' => r = ((many + rlx (md X f) (md Y f) d q : Nat) : Int) ∧ F' = F) m_no := by
  intro d
  induction d with
  | zero =>
    intro q many hq hln hm
    obtain rfl : q = 8 := by omega
    exact b_208_12 hk hk1 hS ⟨fun h => by omega, fun _ => ⟨rfl, rfl⟩⟩
  | succ d ih =>
    intro q many hq hln hm
    refine b_208_12 hk hk1 hS ⟨fun _ => ⟨by omega, by omega, by omega, ?_⟩, fun h => by omega⟩
    rw [show ((8 * (f : Int)) + (q : Int)).toNat = 8 * f + q by omega, hL _ (by omega)]
    have s := s_204 (b := md Y f q) hk hS hT (show q < 8 by omega)
    refine CaI.on s ?_
    rintro r F1 hS1 ⟨rfl, rfl⟩
    have e : modeL 24 (fil Y f q) 0 (md Y f q) = md Y f (q + 1) := rfl
    rw [e]
    refine ⟨fun h => by omega, fun _ => ⟨fun h => absurd h (by decide), fun _ => ?_⟩⟩
    refine l_208b hk hk1 hS (by omega) (by omega) (by omega) hB (fun e2 => ⟨?_, rfl⟩) (fun e2 => ?_)
    · rw [rlx_succ, if_pos e2.symm]
      rfl
    · have := ih (q + 1) (many + 1) (by omega) (by omega) (by omega)
      rw [rlx_succ, if_neg (fun e3 => e2 e3.symm)]
      rw [show (((q + 1 : Nat)) : Int) = (q : Int) + 1 by omega, show (((many + 1 : Nat)) : Int) = (many : Int) + 1 by omega, show many + 1 + rlx (md X f) (md Y f) d (q + 1) = many + (1 + rlx (md X f) (md Y f) d (q + 1)) by omega] at this
      exact this
theorem l_208 (hk : m_KD[n]? = some (101, 24)) (hk1 : m_KD[n1]? = some (100, 24)) (hS : St F) (hf : f < 3) (hln : ln < 8) (hT : TPw (F n) (fil Y f)) (hL : LL (F n1) Y) (hB : BS B (fun i => md X f (i + 1)) 8) : ∀ (d q : Nat), q + d = ln →
    L_208_12 n n1 (f : Int) (ln : Int) B 0 (bi (md Y f q)) 0 (q : Int) F (fun r F' => r = ((relx X Y f ln : Nat) : Int) ∧ F' = F) m_no := by
  intro d
  induction d with
  | zero =>
    intro q hq
    obtain rfl : q = ln := by omega
    refine b_208_12 hk hk1 hS ⟨fun _ => ⟨by omega, by omega, by omega, ?_⟩, fun h => by omega⟩
    rw [show ((8 * (f : Int)) + (q : Int)).toNat = 8 * f + q by omega, hL _ (by omega)]
    have s := s_204 (b := md Y f q) hk hS hT (show q < 8 by omega)
    refine CaI.on s ?_
    rintro r F1 hS1 ⟨rfl, rfl⟩
    have e : modeL 24 (fil Y f q) 0 (md Y f q) = md Y f (q + 1) := rfl
    rw [e]
    have er : relx X Y f q = rlx (md X f) (md Y f) (7 - q + 1) q := by
      unfold relx
      rw [show 8 - q = 7 - q + 1 by omega]
    rw [er, rlx_succ]
    refine ⟨fun _ => ?_, fun h => absurd rfl h⟩
    refine l_208b (many := 0) hk hk1 hS (by decide) (by omega) (Nat.le_refl _) hB (fun e2 => ⟨?_, rfl⟩) (fun e2 => ?_)
    · rw [if_pos e2.symm]
      rfl
    · rw [if_neg (fun e3 => e2 e3.symm)]
      have := l_208a (ln := q) hk hk1 hS hf hT hL hB (7 - q) (q + 1) 1 (by omega) (by omega) (by omega)
      rw [show (((q + 1 : Nat)) : Int) = (q : Int) + 1 by omega] at this
      exact this
  | succ d ih =>
    intro q hq
    refine b_208_12 hk hk1 hS ⟨fun _ => ⟨by omega, by omega, by omega, ?_⟩, fun h => by omega⟩
    rw [show ((8 * (f : Int)) + (q : Int)).toNat = 8 * f + q by omega, hL _ (by omega)]
    have s := s_204 (b := md Y f q) hk hS hT (show q < 8 by omega)
    refine CaI.on s ?_
    rintro r F1 hS1 ⟨rfl, rfl⟩
    have e : modeL 24 (fil Y f q) 0 (md Y f q) = md Y f (q + 1) := rfl
    rw [e]
    refine ⟨fun h => by omega, fun _ => ⟨fun _ => ⟨by omega, ⟨fun _ => ⟨by omega, ?_⟩, fun h => by omega⟩⟩, fun h => absurd rfl h⟩⟩
    have := ih (q + 1) (by omega)
    rw [show (((q + 1 : Nat)) : Int) = (q : Int) + 1 by omega] at this
    exact this
/-- how many lines are looked at -/
theorem s_208 (hk : m_KD[n]? = some (101, 24)) (hk1 : m_KD[n1]? = some (100, 24)) (hS : St F) (hf : f < 3) (hln : ln < 8) (hT : TPw (F n) (fil Y f)) (hL : LL (F n1) Y) (hB : BS B (fun i => md X f (i + 1)) 8) :
    C_208 n n1 (f : Int) (ln : Int) B F (fun r F' => r = ((relx X Y f ln : Nat) : Int) ∧ F' = F) m_no :=
  c_208 hk hk1 hS (l_208 hk hk1 hS hf hln hT hL hB ln 0 (by omega))
theorem l_207a (hk : m_KD[n]? = some (101, 24)) (hk1 : m_KD[n1]? = some (100, 24)) (hk2 : m_KD[n2]? = some (101, 24)) (hk3 : m_KD[n3]? = some (100, 24)) (hS : St F) (hf : f < 3) (hm : m < 8) (hT : TPw (F n) (fil X f)) (hL : LL (F n1) X) (hT2 : TPw (F n2) (fil S f))
    {many : Nat} (hmany : many < 100) {R : Int → MF → Prop} (hy : X (8 * f + m) = S (8 * f + m) → L_207_6 n n1 n2 n3 (f : Int) (many : Int) ((m : Int) + 1) F R m_no) (hn : X (8 * f + m) ≠ S (8 * f + m) → L_207_6 n n1 n2 n3 (f : Int) ((many : Int) + 1) ((m : Int) + 1) F R m_no) :
    ∀ (d k : Nat) (is : Bool), k + d = (X (8 * f + m)).length → (is = true → (X (8 * f + m)).length = (S (8 * f + m)).length ∧ ∀ i, i < k → gx (X (8 * f + m)) i = gx (S (8 * f + m)) i) → (is = false → X (8 * f + m) ≠ S (8 * f + m)) →
    L_207_46 n n1 n2 n3 (f : Int) (many : Int) (m : Int) (bi is) (k : Int) F R m_no := by
  have hl1 : (X (8 * f + m)).length ≤ 24 := (hT.2 m hm).1
  have e1 : ((8 * (f : Int)) + (m : Int)).toNat = 8 * f + m := by omega
  have eL : F n1 (8 * f + m) = ((X (8 * f + m)).length : Int) := hL _ (by omega)
  intro d
  induction d with
  | zero =>
    intro k is hkd hi1 hi0
    refine b_207_46 hk hk1 hk2 hk3 hS ⟨by omega, by omega, by omega, ?_⟩
    rw [e1, eL]
    refine ⟨fun h => by omega, fun _ => ⟨fun h => ⟨by omega, by omega, ?_⟩, fun h => ⟨by omega, by omega, ?_⟩⟩⟩
    · refine hn (hi0 ?_)
      cases is
      · rfl
      · cases h
    · rw [Int.add_zero]
      have hit : is = true := by
        cases is
        · exact absurd rfl h
        · rfl
      obtain ⟨h2, h3⟩ := hi1 hit
      exact hy (gx_ext h2 (fun i hi => h3 i (by omega)))
  | succ d ih =>
    intro k is hkd hi1 hi0
    refine b_207_46 hk hk1 hk2 hk3 hS ⟨by omega, by omega, by omega, ?_⟩
    rw [e1, eL]
    refine ⟨fun _ => ⟨fun h => ⟨by omega, by omega, ?_⟩, fun h => ⟨ob_201 hm (by omega), ob_201 hm (by omega), ?_⟩⟩, fun h => by omega⟩
    · refine hn (hi0 ?_)
      cases is
      · rfl
      · cases h
    · have hit : is = true := by
        cases is
        · exact absurd rfl h
        · rfl
      obtain ⟨h2, h3⟩ := hi1 hit
      have g1 : g_201 F n (m : Int) (k : Int) = gx (X (8 * f + m)) k := q_201y hT hm (show k < (X (8 * f + m)).length by omega)
      have g2 : g_201 F n2 (m : Int) (k : Int) = gx (S (8 * f + m)) k := q_201y hT2 hm (show k < (S (8 * f + m)).length by omega)
      rw [g1, g2]
      refine ⟨fun h4 => ⟨by omega, ?_⟩, fun h4 => ⟨by omega, ?_⟩⟩
      · have := ih (k + 1) true (by omega) (fun _ => ⟨h2, fun i hi => by
          by_cases e : i = k
          · rw [e]; exact h4
          · exact h3 i (by omega)⟩) (fun h => by cases h)
        rwa [show (((k + 1 : Nat)) : Int) = (k : Int) + 1 by omega] at this
      · have := ih (k + 1) false (by omega) (fun h => by cases h) (fun _ e => h4 (by rw [e]))
        rwa [show (((k + 1 : Nat)) : Int) = (k : Int) + 1 by omega] at this
theorem l_207 (hk : m_KD[n]? = some (101, 24)) (hk1 : m_KD[n1]? = some (100, 24)) (hk2 : m_KD[n2]? = some (101, 24)) (hk3 : m_KD[n3]? = some (100, 24)) (hS : St F) (hf : f < 3) (hT : TPw (F n) (fil X f)) (hL : LL (F n1) X) (hT2 : TPw (F n2) (fil S f)) (hL2 : LL (F n3) S) : ∀ (d m : Nat), m + d = 8 →
    L_207_6 n n1 n2 n3 (f : Int) ((dif X S f m : Nat) : Int) (m : Int) F (fun r F' => r = ((dif X S f 8 : Nat) : Int) ∧ F' = F) m_no := by
  intro d
  induction d with
  | zero =>
    intro m hmd
    obtain rfl : m = 8 := by omega
    exact b_207_6 hk hk1 hk2 hk3 hS ⟨fun h => by omega, fun _ => ⟨rfl, rfl⟩⟩
  | succ d ih =>
    intro m hmd
    have e1 : ((8 * (f : Int)) + (m : Int)).toNat = 8 * f + m := by omega
    have hle := dif_le (X := X) (Y := S) (f := f) m
    have nx := ih (m + 1) (by omega)
    have ed : dif X S f (m + 1) = dif X S f m + (if X (8 * f + m) = S (8 * f + m) then 0 else 1) := rfl
    rw [show (((m + 1 : Nat)) : Int) = (m : Int) + 1 by omega, ed] at nx
    refine b_207_6 hk hk1 hk2 hk3 hS ⟨fun _ => ⟨by omega, by omega, by omega, by omega, by omega, by omega, ?_⟩, fun h => by omega⟩
    rw [e1, hL _ (by omega), hL2 _ (by omega)]
    have hy : X (8 * f + m) = S (8 * f + m) → L_207_6 n n1 n2 n3 (f : Int) ((dif X S f m : Nat) : Int) ((m : Int) + 1) F (fun r F' => r = ((dif X S f 8 : Nat) : Int) ∧ F' = F) m_no := fun e => by
      rw [if_pos e] at nx; exact nx
    have hn : X (8 * f + m) ≠ S (8 * f + m) → L_207_6 n n1 n2 n3 (f : Int) (((dif X S f m : Nat) : Int) + 1) ((m : Int) + 1) F (fun r F' => r = ((dif X S f 8 : Nat) : Int) ∧ F' = F) m_no := fun e => by
      rw [if_neg e] at nx
      exact nx
    have key := l_207a hk hk1 hk2 hk3 hS hf (show m < 8 by omega) hT hL hT2 (many := dif X S f m) (by omega) hy hn
    refine ⟨fun h => ?_, fun h => ?_⟩
    · exact key (X (8 * f + m)).length 0 true (by omega) (fun _ => ⟨by omega, fun i hi => absurd hi (Nat.not_lt_zero i)⟩) (fun h => by cases h)
    · exact key (X (8 * f + m)).length 0 false (by omega) (fun h => by cases h) (fun _ e => h (by rw [e]))
/-- how many lines are otherwise -/
theorem s_207 (hk : m_KD[n]? = some (101, 24)) (hk1 : m_KD[n1]? = some (100, 24)) (hk2 : m_KD[n2]? = some (101, 24)) (hk3 : m_KD[n3]? = some (100, 24)) (hS : St F) (hf : f < 3) (hT : TPw (F n) (fil X f)) (hL : LL (F n1) X) (hT2 : TPw (F n2) (fil S f)) (hL2 : LL (F n3) S) :
    C_207 n n1 n2 n3 (f : Int) F (fun r F' => r = ((dif X S f 8 : Nat) : Int) ∧ F' = F) m_no :=
  c_207 hk hk1 hk2 hk3 hS (l_207 hk hk1 hk2 hk3 hS hf hT hL hT2 hL2 8 0 rfl)
end Mo2
