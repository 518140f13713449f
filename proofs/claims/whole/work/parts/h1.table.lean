/-! REPAIR: tables of costs -/
def hitk (p : Nat → Bool) (i : Nat) : Nat → Bool
  | 0 => false
  | j + 1 => hitk p i j || (decide (i ≤ j) && p j)
/-- is a token of a kind of the reference's -/
def clF (a : Nat) (k : Int) : Bool := if a = 0 then decide (k = 0 ∨ k = 1 ∨ k = 8 ∨ k = 9) else if a = 10 then decide (k = 19 ∨ k = 20) else if a = 11 then decide (k = 17 ∨ k = 18) else decide (k = ([0, 10, 11, 0, 14, 15, 16, 4, 7, 21, 19, 17, 22] : List Int).getD a 0)
def tcs (K : Nat → Int) (a i j : Nat) : Int := if hitk (fun k => clF a (K k)) i j = true then (j : Int) - (i : Int) - 1 else (j : Int) - (i : Int) + 1
/-- the class's rules as it has them: 99 for none -/
def RgL : List (Nat × Nat × Nat) := [(13, 8, 99), (13, 14, 99), (13, 19, 99), (14, 1, 15), (15, 4, 16), (16, 5, 99), (16, 17, 5), (17, 26, 99), (17, 26, 18), (18, 7, 17), (19, 4, 20), (20, 26, 5), (21, 13, 99), (21, 12, 13), (22, 21, 99), (22, 22, 23), (23, 11, 21), (24, 22, 99), (24, 24, 25), (25, 10, 22), (26, 24, 99), (26, 24, 27), (27, 9, 24), (28, 26, 3), (29, 2, 28), (30, 1, 29), (31, 30, 99), (31, 0, 30), (31, 6, 28), (31, 14, 3)]
/-- what a symbol costs at most where nothing stands, and in how many rounds that is found -/
def ugc (A : Nat) : Int := ([1, 1, 1, 1, 1, 1, 1, 1, 1, 1, 1, 1, 1, 1, 3, 2, 1, 1, 2, 3, 2, 1, 1, 2, 1, 2, 1, 2, 2, 3, 4, 4] : List Int).getD A 0
def dgc (A : Nat) : Nat := ([0, 0, 0, 0, 0, 0, 0, 0, 0, 0, 0, 0, 0, 1, 3, 2, 1, 6, 7, 7, 6, 2, 3, 3, 4, 4, 5, 5, 6, 7, 8, 4] : List Nat).getD A 0
/-- a table that no rule makes cheaper -/
def ClT (T t : Nat → Nat → Nat → Int) (U : List (Nat × Nat)) (B : List (Nat × Nat × Nat)) (e n : Nat) : Prop :=
  (∀ A i j, A < 13 → i ≤ j → j ≤ n → T A i j ≤ t A i j) ∧ (∀ i j, e < 32 → i ≤ j → j ≤ n → T e i j ≤ (j : Int) - (i : Int)) ∧ (∀ A b i j, (A, b) ∈ U → i ≤ j → j ≤ n → T A i j ≤ T b i j) ∧
  (∀ A b b2 i k j, (A, b, b2) ∈ B → i ≤ k → k ≤ j → j ≤ n → T A i j ≤ T b i k + T b2 k j)
/-- all costs of a span, summed up -/
def sAg (T : Nat → Nat → Nat → Int) (i j : Nat) : Nat → Int
  | 0 => 0
  | m + 1 => sAg T i j m + T m i j
section Mh1
variable {T T' t : Nat → Nat → Nat → Int} {U : List (Nat × Nat)} {B : List (Nat × Nat × Nat)} {e A b b2 i j k d n : Nat} {c x y z : Int} {K : Nat → Int} {p : Nat → Bool}
theorem hitk_no : ∀ {j : Nat}, j ≤ i → hitk p i j = false
  | 0, _ => rfl
  | j + 1, h => by
    show (hitk p i j || (decide (i ≤ j) && p j)) = false
    rw [hitk_no (by omega), decide_eq_false (by omega)]
    rfl
theorem hitk_mo (hik : i ≤ k) : ∀ {j : Nat}, hitk p k j = true → hitk p i j = true
  | 0, h => h
  | j + 1, h => by
    change (hitk p k j || (decide (k ≤ j) && p j)) = true at h
    show (hitk p i j || (decide (i ≤ j) && p j)) = true
    rcases Bool.or_eq_true _ _ ▸ h with h | h
    · rw [hitk_mo hik h, Bool.true_or]
    · have h2 := Bool.and_eq_true _ _ ▸ h
      rw [h2.2, decide_eq_true (show i ≤ j by have := of_decide_eq_true h2.1; omega), Bool.and_true, Bool.or_true]
theorem tcs_rng (h : i ≤ j) : 0 ≤ tcs K A i j ∧ tcs K A i j ≤ (j : Int) - (i : Int) + 1 := by
  unfold tcs
  split
  · next hh =>
    have : i < j := by
      rcases Nat.lt_or_ge i j with h1 | h1
      · exact h1
      · rw [hitk_no h1] at hh; cases hh
    omega
  · omega
theorem tcs_ep (a : Nat) : ∀ i k j : Nat, i ≤ k → k ≤ j → tcs K a i j ≤ (k : Int) - (i : Int) + tcs K a k j := by
  intro i k j h1 h2
  unfold tcs
  by_cases h : hitk (fun k => clF a (K k)) k j = true
  · rw [if_pos h, if_pos (hitk_mo h1 h)]; omega
  · rw [if_neg h]
    split <;> omega
theorem clt_le (hc : ClT T t U B e n) (hU : ∀ p ∈ U, p.2 < 32) (hB : ∀ p ∈ B, p.2.1 < 32 ∧ p.2.2 < 32) : ∀ (d A i j : Nat) (c : Int), A < 32 → Dg t U B e d A i j c → j ≤ n → T A i j ≤ c := by
  intro d
  induction d with
  | zero => intro A i j c _ h; exact h.elim
  | succ d ih =>
    intro A i j c hA h hj
    obtain ⟨hij, h | h | ⟨b, m1, m2⟩ | ⟨b, b2, k, x, y, m1, m2, m3, rfl⟩⟩ := h
    · obtain ⟨h1, rfl⟩ := h
      exact hc.1 A i j h1 hij hj
    · obtain ⟨rfl, rfl⟩ := h
      exact hc.2.1 i j hA hij hj
    · exact Int.le_trans (hc.2.2.1 A b i j m1 hij hj) (ih b i j c (hU _ m1) m2 hj)
    · have r1 := m2.rng
      have r2 := m3.rng
      have q := hB _ m1
      have q1 := ih b i k x q.1 m2 (by omega)
      have q2 := ih b2 k j y q.2 m3 hj
      have q3 := hc.2.2.2 A b b2 i k j m1 r1 r2 hj
      omega
theorem rep_eq {Tc Tr : Nat → Nat → Nat → Int} (hc : ClT Tc (fun a => t (sgm a)) UgC BgC 99 n) (hr : ClT Tr t UgF BgF 19 n) (he : ∀ i k j : Nat, i ≤ k → k ≤ j → t 2 i j ≤ (k : Int) - (i : Int) + t 2 k j)
    (sc : Tc 31 0 n ≤ 1000 ∧ (Tc 31 0 n = 1000 ∨ Lg (fun a => t (sgm a)) UgC BgC 99 31 0 n (Tc 31 0 n))) (sr : Tr 30 0 n ≤ 1000 ∧ (Tr 30 0 n = 1000 ∨ Lg t UgF BgF 19 30 0 n (Tr 30 0 n))) : Tc 31 0 n = Tr 30 0 n := by
  have h1 : Tr 30 0 n ≤ Tc 31 0 n := by
    rcases sc.2 with h | ⟨d, x, g1, g2⟩
    · rw [h]; exact sr.1
    · obtain ⟨d', y, g3, g4⟩ : Lg t UgF BgF 19 30 0 n x := gram_cr d g1
      have := clt_le hr (by decide) (by decide) d' 30 0 n y (by decide) g3 (Nat.le_refl _)
      omega
  have h2 : Tc 31 0 n ≤ Tr 30 0 n := by
    rcases sr.2 with h | ⟨d, x, g1, g2⟩
    · rw [h]; exact sc.1
    · obtain ⟨d', y, g3, g4⟩ : Lg (fun a => t (sgm a)) UgC BgC 99 31 0 n x := gram_rc he d g1
      have := clt_le hc (by decide) (by decide) d' 31 0 n y (by decide) g3 (Nat.le_refl _)
      omega
  omega
theorem RgL_un : ∀ p ∈ UgC, (p.1, p.2, 99) ∈ RgL := by decide +kernel
theorem RgL_bi : ∀ p ∈ BgC, p ∈ RgL ∧ p.2.2 ≠ 99 := by decide +kernel
theorem RgL_ok : ∀ p ∈ RgL, 13 ≤ p.1 ∧ p.1 < 32 ∧ p.2.1 < 32 ∧ (p.2.2 = 99 ∧ (p.1, p.2.1) ∈ UgC ∨ p.2.2 < 32 ∧ p ∈ BgC) := by decide +kernel
theorem RgL_ch : ∀ A, A < 32 → 13 ≤ A → ∃ p ∈ RgL, p.1 = A ∧ dgc p.2.1 < dgc A ∧ (p.2.2 = 99 ∧ ugc p.2.1 ≤ ugc A ∨ p.2.2 < 32 ∧ dgc p.2.2 < dgc A ∧ ugc p.2.1 + ugc p.2.2 ≤ ugc A) := by decide +kernel
theorem RgL_ct : ∀ r, r < 30 → (m_ct 1).getD (3 * r) 0 = ((RgL.getD r (0, 0, 0)).1 : Int) ∧ (m_ct 1).getD (3 * r + 1) 0 = ((RgL.getD r (0, 0, 0)).2.1 : Int) ∧ (m_ct 1).getD (3 * r + 2) 0 = (if (RgL.getD r (0, 0, 0)).2.2 = 99 then -1 else ((RgL.getD r (0, 0, 0)).2.2 : Int)) := by decide +kernel
theorem dgc_le : ∀ A, A < 32 → dgc A ≤ 8 ∧ 0 ≤ ugc A ∧ ugc A ≤ 4 ∧ (A < 13 → ugc A = 1) ∧ (13 ≤ A → 0 < dgc A) := by decide +kernel
theorem sAg_up (hx : T' A i j + 1 ≤ T A i j) (ho : ∀ a, a ≠ A → T' a i j = T a i j) : ∀ m, (A < m → sAg T' i j m + 1 ≤ sAg T i j m) ∧ (m ≤ A → sAg T' i j m = sAg T i j m)
  | 0 => ⟨fun h => absurd h (Nat.not_lt_zero _), fun _ => rfl⟩
  | m + 1 => by
    have ih := sAg_up hx ho m
    show (A < m + 1 → sAg T' i j m + T' m i j + 1 ≤ sAg T i j m + T m i j) ∧ (m + 1 ≤ A → sAg T' i j m + T' m i j = sAg T i j m + T m i j)
    refine ⟨fun h => ?_, fun h => ?_⟩
    · by_cases e : A = m
      · subst e
        have := ih.2 (Nat.le_refl _)
        omega
      · have := ih.1 (by omega)
        have := ho m (fun h => e h.symm)
        omega
    · have := ih.2 (by omega)
      have := ho m (by omega)
      omega
theorem sAg_le : ∀ m, (∀ a, a < m → 0 ≤ T a i j ∧ T a i j ≤ x) → 0 ≤ sAg T i j m ∧ sAg T i j m ≤ x * (m : Int)
  | 0, _ => by
    show (0 : Int) ≤ 0 ∧ (0 : Int) ≤ x * ((0 : Nat) : Int)
    rw [show ((0 : Nat) : Int) = 0 from rfl, Int.mul_zero]
    omega
  | m + 1, h => by
    have ih := sAg_le m (fun a ha => h a (by omega))
    have h2 := h m (Nat.lt_succ_self m)
    show 0 ≤ sAg T i j m + T m i j ∧ sAg T i j m + T m i j ≤ x * ((m + 1 : Nat) : Int)
    rw [show ((m + 1 : Nat) : Int) = (m : Int) + 1 by omega, Int.mul_add, Int.mul_one]
    omega
end Mh1
