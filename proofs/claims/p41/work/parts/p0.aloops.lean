/-! EDITS: the loops over the law's rows -/
theorem kd_t {f : Nat} (hf : f < 3) : m_KD[201 + f]? = some (101, 24) ∧ m_KD[204 + f]? = some (101, 24) := by
  have h3 : f = 0 ∨ f = 1 ∨ f = 2 := by omega
  rcases h3 with rfl | rfl | rfl
  · exact ⟨kd_201, kd_204⟩
  · exact ⟨kd_202, kd_205⟩
  · exact ⟨kd_203, kd_206⟩
theorem dg_rng {T : Nat → Int} {m k : Nat} : 0 ≤ dg T m k ∧ dg T m k < 128 := dgt_rng _ _
section Mp0
variable {D : Nat → Prop} {nc ns f m col len : Nat} {F F0 : MF} {t y B c : Int} {R : Int → MF → Prop}
/-- the signs behind a place go one on, and one is set -/
theorem l_ins (hf : f < 3) (hm : m < 8) (hl : len < 24) (hc : 0 ≤ c ∧ c < 128) (h0 : F0 207 (8 * f + m) = (len : Int))
    (K : ∀ F1, St F1 → TR8 (F1 (201 + f)) → (∀ a, a ≠ 201 + f → F1 a = F0 a) → (∀ m2 k2, m2 < 8 → k2 < 24 → dg (F1 (201 + f)) m2 k2 = if m2 = m ∧ col ≤ k2 ∧ k2 ≤ len then (if k2 = col then c else dg (F0 (201 + f)) m (k2 - 1)) else dg (F0 (201 + f)) m2 k2) →
      C_149 (m_up F1 207 (8 * f + m) ((len : Int) + 1)) (fun r13 F10 => C_208 (201 + f) 207 (f : Int) (m : Int) B F10 (fun r17 F14 => ((r13 = r17 → L_388_569 D nc ns 201 202 203 204 205 206 207 208 1 t y F14 R) ∧ (¬ (r13 = r17) → L_388_569 D nc ns 201 202 203 204 205 206 207 208 0 t y F14 R))) m_no) m_no) :
    ∀ (dd k : Nat) (F : MF), k = col + dd → k ≤ len → St F → TR8 (F (201 + f)) → (∀ a, a ≠ 201 + f → F a = F0 a) → (∀ m2 k2, m2 < 8 → k2 < 24 → dg (F (201 + f)) m2 k2 = if m2 = m ∧ k < k2 ∧ k2 ≤ len then dg (F0 (201 + f)) m (k2 - 1) else dg (F0 (201 + f)) m2 k2) →
    L_388_484 D nc ns 201 202 203 204 205 206 207 208 1 t y (f : Int) (m : Int) (201 + f) ((8 * f + m : Nat) : Int) B (col : Int) c (k : Int) F R := by
  have hk := (kd_t hf).1
  intro dd
  induction dd with
  | zero =>
    intro k F e hkl hS hT hO hD
    obtain rfl : k = col := by omega
    refine b_388_484 kd_201 kd_202 kd_203 kd_204 kd_205 kd_206 kd_207 kd_208 hk hS ⟨fun h => by omega, fun _ => CaV.on (s_202d hk hS hT hc hm (by omega)) ?_⟩
    rintro F1 hS1 ⟨t1, t2, t3⟩
    have e7 : F1 207 (8 * f + m) = (len : Int) := by rw [t3 207 (by omega), hO 207 (by omega)]; exact h0
    simp only [Int.toNat_natCast, e7]
    refine ⟨⟨by omega, by omega⟩, ⟨by omega, by omega⟩, ⟨by omega, by omega⟩, fun h => absurd h (by decide), fun _ => K F1 hS1 t1 (fun a ha => (t3 a ha).trans (hO a ha)) (fun m2 k2 h1 h2 => ?_)⟩
    rw [t2 m2 k2 h1 h2, hD m2 k2 h1 h2]
    by_cases c1 : m2 = m ∧ k2 = k
    · rw [if_pos c1, if_pos ⟨c1.1, by omega, by omega⟩, if_pos c1.2]
    · rw [if_neg c1]
      by_cases c2 : m2 = m ∧ k < k2 ∧ k2 ≤ len
      · rw [if_pos c2, if_pos ⟨c2.1, by omega, c2.2.2⟩, if_neg (by omega)]
      · rw [if_neg c2, if_neg (by omega)]
  | succ dd ih =>
    intro k F e hkl hS hT hO hD
    subst e
    refine b_388_484 kd_201 kd_202 kd_203 kd_204 kd_205 kd_206 kd_207 kd_208 hk hS ⟨fun _ => ⟨⟨by omega, by omega⟩, ?_⟩, fun h => by omega⟩
    rw [show ((col + (dd + 1) : Nat) : Int) - 1 = ((col + dd : Nat) : Int) by omega]
    refine CaI.on (s_201 hk hS hT hm (by omega)) ?_
    rintro r F1 hS1 ⟨rfl, rfl⟩
    refine CaV.on (s_202d hk hS hT dg_rng hm (by omega)) ?_
    rintro F2 hS2 ⟨t1, t2, t3⟩
    refine ⟨⟨by omega, by omega⟩, ?_⟩
    rw [show ((col + (dd + 1) : Nat) : Int) + (-1) = ((col + dd : Nat) : Int) by omega]
    refine ih _ F2 rfl (by omega) hS2 t1 (fun a ha => (t3 a ha).trans (hO a ha)) (fun m2 k2 h1 h2 => ?_)
    rw [t2 m2 k2 h1 h2]
    by_cases c1 : m2 = m ∧ k2 = col + (dd + 1)
    · rw [if_pos c1, hD m (col + dd) hm (by omega), if_neg (by omega), if_pos ⟨c1.1, by omega, by omega⟩, c1.2]
      rfl
    · rw [if_neg c1, hD m2 k2 h1 h2]
      by_cases c2 : m2 = m ∧ col + (dd + 1) < k2 ∧ k2 ≤ len
      · rw [if_pos c2, if_pos ⟨c2.1, by omega, c2.2.2⟩]
      · rw [if_neg c2, if_neg (by omega)]
/-- the signs behind a place go one back -/
theorem l_del (hf : f < 3) (hm : m < 8) (hl : len ≤ 24) (hl1 : 1 ≤ len) (h0 : F0 207 (8 * f + m) = (len : Int))
    (K : ∀ F1, St F1 → TR8 (F1 (201 + f)) → (∀ a, a ≠ 201 + f → F1 a = F0 a) → (∀ m2 k2, m2 < 8 → k2 < 24 → dg (F1 (201 + f)) m2 k2 = if m2 = m ∧ col ≤ k2 ∧ k2 < len - 1 then dg (F0 (201 + f)) m (k2 + 1) else dg (F0 (201 + f)) m2 k2) →
      C_149 (m_up F1 207 (8 * f + m) ((len : Int) - 1)) (fun r9 F6 => C_208 (201 + f) 207 (f : Int) (m : Int) B F6 (fun r13 F10 => ((r9 = r13 → L_388_739 D nc ns 201 202 203 204 205 206 207 208 1 t y F10 R) ∧ (¬ (r9 = r13) → L_388_739 D nc ns 201 202 203 204 205 206 207 208 0 t y F10 R))) m_no) m_no) :
    ∀ (dd k : Nat) (F : MF), k + dd = len - 1 → col ≤ k → St F → TR8 (F (201 + f)) → (∀ a, a ≠ 201 + f → F a = F0 a) → (∀ m2 k2, m2 < 8 → k2 < 24 → dg (F (201 + f)) m2 k2 = if m2 = m ∧ col ≤ k2 ∧ k2 < k then dg (F0 (201 + f)) m (k2 + 1) else dg (F0 (201 + f)) m2 k2) →
    L_388_660 D nc ns 201 202 203 204 205 206 207 208 1 t y (f : Int) (m : Int) (201 + f) ((8 * f + m : Nat) : Int) B (k : Int) F R := by
  have hk := (kd_t hf).1
  intro dd
  induction dd with
  | zero =>
    intro k F e hkl hS hT hO hD
    obtain rfl : k = len - 1 := by omega
    have e7 : F 207 (8 * f + m) = (len : Int) := by rw [hO 207 (by omega)]; exact h0
    refine b_388_660 kd_201 kd_202 kd_203 kd_204 kd_205 kd_206 kd_207 kd_208 hk hS ?_
    simp only [Int.toNat_natCast, e7]
    exact ⟨⟨by omega, by omega⟩, ⟨by omega, by omega⟩, fun h => by omega, fun _ => ⟨⟨by omega, by omega⟩, ⟨by omega, by omega⟩, ⟨by omega, by omega⟩, fun h => absurd h (by decide), fun _ => K F hS hT hO hD⟩⟩
  | succ dd ih =>
    intro k F e hkl hS hT hO hD
    have e7 : F 207 (8 * f + m) = (len : Int) := by rw [hO 207 (by omega)]; exact h0
    refine b_388_660 kd_201 kd_202 kd_203 kd_204 kd_205 kd_206 kd_207 kd_208 hk hS ?_
    simp only [Int.toNat_natCast, e7]
    refine ⟨⟨by omega, by omega⟩, ⟨by omega, by omega⟩, fun _ => ⟨⟨by omega, by omega⟩, ?_⟩, fun h => by omega⟩
    rw [show (k : Int) + 1 = ((k + 1 : Nat) : Int) by omega]
    refine CaI.on (s_201 hk hS hT hm (by omega)) ?_
    rintro r F1 hS1 ⟨rfl, rfl⟩
    refine CaV.on (s_202d hk hS hT dg_rng hm (by omega)) ?_
    rintro F2 hS2 ⟨t1, t2, t3⟩
    refine ⟨⟨by omega, by omega⟩, ih _ F2 (by omega) (by omega) hS2 t1 (fun a ha => (t3 a ha).trans (hO a ha)) (fun m2 k2 h1 h2 => ?_)⟩
    rw [t2 m2 k2 h1 h2]
    by_cases c1 : m2 = m ∧ k2 = k
    · rw [if_pos c1, hD m (k + 1) hm (by omega), if_neg (by omega), if_pos ⟨c1.1, by omega, by omega⟩, c1.2]
    · rw [if_neg c1, hD m2 k2 h1 h2]
      by_cases c2 : m2 = m ∧ col ≤ k2 ∧ k2 < k
      · rw [if_pos c2, if_pos ⟨c2.1, c2.2.1, by omega⟩]
      · rw [if_neg c2, if_neg (by omega)]
def pch (o : Int) (j : Nat) : Int := if j = 1 then 42 else if j = 0 then (if 1 = o then 47 else 32) else (if 0 = o then 47 else 32)
theorem pch_rng {o : Int} {j : Nat} : 0 ≤ pch o j ∧ pch o j < 128 := by
  unfold pch
  (repeat' split) <;> decide
/-- three signs are set at a row's end -/
theorem l_pst {o : Int} (hf : f < 3) (hm : m < 8) (hl : len ≤ 21) (h0 : F0 207 (8 * f + m) = (len : Int))
    (K : ∀ F1, St F1 → TR8 (F1 (201 + f)) → (∀ a, a ≠ 201 + f → F1 a = F0 a) → (∀ m2 k2, m2 < 8 → k2 < 24 → dg (F1 (201 + f)) m2 k2 = if m2 = m ∧ len ≤ k2 ∧ k2 < len + 3 then pch o (k2 - len) else dg (F0 (201 + f)) m2 k2) →
      C_149 (m_up F1 207 (8 * f + m) ((len : Int) + 3)) (fun r9 F6 => C_208 (201 + f) 207 (f : Int) (m : Int) B F6 (fun r13 F10 => ((r9 = r13 → L_388_1175 D nc ns 201 202 203 204 205 206 207 208 1 t y F10 R) ∧ (¬ (r9 = r13) → L_388_1175 D nc ns 201 202 203 204 205 206 207 208 0 t y F10 R))) m_no) m_no) :
    ∀ (dd j : Nat) (F : MF), j + dd = 3 → St F → TR8 (F (201 + f)) → (∀ a, a ≠ 201 + f → F a = F0 a) → (∀ m2 k2, m2 < 8 → k2 < 24 → dg (F (201 + f)) m2 k2 = if m2 = m ∧ len ≤ k2 ∧ k2 < len + j then pch o (k2 - len) else dg (F0 (201 + f)) m2 k2) →
    L_388_1074 D nc ns 201 202 203 204 205 206 207 208 1 t y (f : Int) (m : Int) (201 + f) ((8 * f + m : Nat) : Int) B o (j : Int) F R := by
  have hk := (kd_t hf).1
  intro dd
  induction dd with
  | zero =>
    intro j F e hS hT hO hD
    obtain rfl : j = 3 := by omega
    have e7 : F 207 (8 * f + m) = (len : Int) := by rw [hO 207 (by omega)]; exact h0
    refine b_388_1074 kd_201 kd_202 kd_203 kd_204 kd_205 kd_206 kd_207 kd_208 hk hS ?_
    simp only [Int.toNat_natCast, e7]
    exact ⟨fun h => by omega, fun _ => ⟨⟨by omega, by omega⟩, ⟨by omega, by omega⟩, ⟨by omega, by omega⟩, fun h => absurd h (by decide), fun _ => K F hS hT hO hD⟩⟩
  | succ dd ih =>
    intro j F e hS hT hO hD
    have e7 : F 207 (8 * f + m) = (len : Int) := by rw [hO 207 (by omega)]; exact h0
    have key : ∀ c : Int, c = pch o j → C_202 (201 + f) (m : Int) ((len : Int) + (j : Int)) c F (fun F' => (-2147483648 ≤ ((j : Int) + 1) ∧ ((j : Int) + 1) < 2147483648) ∧ L_388_1074 D nc ns 201 202 203 204 205 206 207 208 1 t y (f : Int) (m : Int) (201 + f) ((8 * f + m : Nat) : Int) B o ((j : Int) + 1) F' R) m_no := by
      rintro c rfl
      rw [show (len : Int) + (j : Int) = ((len + j : Nat) : Int) by omega]
      refine CaV.on (s_202d hk hS hT pch_rng hm (by omega)) ?_
      rintro F2 hS2 ⟨t1, t2, t3⟩
      refine ⟨⟨by omega, by omega⟩, ih (j + 1) F2 (by omega) hS2 t1 (fun a ha => (t3 a ha).trans (hO a ha)) (fun m2 k2 h1 h2 => ?_)⟩
      rw [t2 m2 k2 h1 h2]
      by_cases c1 : m2 = m ∧ k2 = len + j
      · rw [if_pos c1, if_pos ⟨c1.1, by omega, by omega⟩, c1.2, Nat.add_sub_cancel_left]
      · rw [if_neg c1, hD m2 k2 h1 h2]
        by_cases c2 : m2 = m ∧ len ≤ k2 ∧ k2 < len + j
        · rw [if_pos c2, if_pos ⟨c2.1, c2.2.1, by omega⟩]
        · rw [if_neg c2, if_neg (by omega)]
    refine b_388_1074 kd_201 kd_202 kd_203 kd_204 kd_205 kd_206 kd_207 kd_208 hk hS ?_
    simp only [Int.toNat_natCast, e7]
    refine ⟨fun _ => ⟨⟨by omega, by omega⟩, ⟨by omega, by omega⟩, fun h => key 42 ?_, fun h => ⟨fun h2 => ⟨fun h3 => key 47 ?_, fun h3 => key 32 ?_⟩, fun h2 => ⟨fun h3 => key 47 ?_, fun h3 => key 32 ?_⟩⟩⟩, fun h => by omega⟩
    · unfold pch; rw [if_pos (by omega)]
    · unfold pch; rw [if_neg (by omega), if_pos (by omega), if_pos h3]
    · unfold pch; rw [if_neg (by omega), if_pos (by omega), if_neg h3]
    · unfold pch; rw [if_neg (by omega), if_neg (by omega), if_pos h3]
    · unfold pch; rw [if_neg (by omega), if_neg (by omega), if_neg h3]
/-- the rows of signs saved, or had back -/
theorem l_cpl {o : Int} {src : Nat → Int} {n17 n18 : Nat} (hk : m_KD[n17]? = some (101, 24)) (hk2 : m_KD[n18]? = some (101, 24)) (hne : n17 ≠ n18) (hf : f < 3) (hsrc : src = if o = 0 then F0 n18 else F0 n17)
    (K : ∀ F1, St F1 → (∀ i, i < 24 → F1 n17 i = src i ∧ F1 n18 i = src i) → (∀ a, a ≠ n17 → a ≠ n18 → F1 a = F0 a) → L_388_935 D nc ns 201 202 203 204 205 206 207 208 1 t y (f : Int) o (8 * (f : Int)) F1 R) :
    ∀ (dd k : Nat) (F : MF), k + dd = 24 → St F → (∀ i, i < k → F n17 i = src i ∧ F n18 i = src i) → (∀ i, k ≤ i → F n17 i = F0 n17 i ∧ F n18 i = F0 n18 i) → (∀ a, a ≠ n17 → a ≠ n18 → F a = F0 a) →
    L_388_882 D nc ns 201 202 203 204 205 206 207 208 1 t y (f : Int) n17 n18 o (k : Int) F R := by
  intro dd
  induction dd with
  | zero =>
    intro k F e hS h1 h2 h3
    obtain rfl : k = 24 := by omega
    exact b_388_882 kd_201 kd_202 kd_203 kd_204 kd_205 kd_206 kd_207 kd_208 hk hk2 hS ⟨fun h => by omega, fun _ => ⟨⟨by omega, by omega⟩, K F hS h1 h3⟩⟩
  | succ dd ih =>
    intro k F e hS h1 h2 h3
    have nx : ∀ v : Int, v = src k → L_388_882 D nc ns 201 202 203 204 205 206 207 208 1 t y (f : Int) n17 n18 o ((k : Int) + 1) (m_up (m_up F n18 k v) n17 k v) R := by
      rintro v rfl
      refine ih (k + 1) _ (by omega) (St.arr (St.arr hS hk2 (by decide)) hk (by decide)) (fun i hi => ?_) (fun i hi => ?_) (fun a ha hb => ?_)
      · by_cases c : i = k
        · rw [c, u_eq, u_ne (Or.inl (fun e => hne e.symm)), u_eq]
          exact ⟨rfl, rfl⟩
        · rw [u_ne (Or.inr c), u_ne (Or.inl hne), u_ne (Or.inl (fun e => hne e.symm)), u_ne (Or.inr c)]
          exact h1 i (by omega)
      · rw [u_ne (Or.inr (by omega)), u_ne (Or.inl hne), u_ne (Or.inl (fun e => hne e.symm)), u_ne (Or.inr (by omega))]
        exact h2 i (by omega)
      · rw [up_row ha, up_row hb]
        exact h3 a ha hb
    refine b_388_882 kd_201 kd_202 kd_203 kd_204 kd_205 kd_206 kd_207 kd_208 hk hk2 hS ?_
    simp only [Int.toNat_natCast]
    refine ⟨fun _ => ⟨fun ho => ⟨⟨by omega, by omega⟩, ⟨by omega, by omega⟩, ⟨by omega, by omega⟩, ⟨by omega, by omega⟩, ⟨by omega, by omega⟩, nx _ ?_⟩, fun ho => ⟨⟨by omega, by omega⟩, ⟨by omega, by omega⟩, ⟨by omega, by omega⟩, ⟨by omega, by omega⟩, ⟨by omega, by omega⟩, nx _ ?_⟩⟩, fun h => by omega⟩
    · rw [hsrc, if_pos ho]
      exact (h2 k (Nat.le_refl k)).2
    · rw [hsrc, if_neg ho]
      exact (h2 k (Nat.le_refl k)).1
/-- the lengths saved, or had back -/
theorem l_cps {o : Int} {src : Nat → Int} (hf : f < 3) (hsrc : src = if o = 0 then F0 208 else F0 207)
    (K : ∀ F1, St F1 → (∀ i, 8 * f ≤ i → i < 8 * f + 8 → F1 207 i = src i ∧ F1 208 i = src i) → (∀ i, i < 8 * f ∨ 8 * f + 8 ≤ i → F1 207 i = F0 207 i ∧ F1 208 i = F0 208 i) → (∀ a, a ≠ 207 → a ≠ 208 → F1 a = F0 a) → L_388_1175 D nc ns 201 202 203 204 205 206 207 208 1 t y F1 R) :
    ∀ (dd k : Nat) (F : MF), k + dd = 8 → St F → (∀ i, 8 * f ≤ i → i < 8 * f + k → F 207 i = src i ∧ F 208 i = src i) → (∀ i, i < 8 * f ∨ 8 * f + k ≤ i → F 207 i = F0 207 i ∧ F 208 i = F0 208 i) → (∀ a, a ≠ 207 → a ≠ 208 → F a = F0 a) →
    L_388_935 D nc ns 201 202 203 204 205 206 207 208 1 t y (f : Int) o ((8 * f + k : Nat) : Int) F R := by
  intro dd
  induction dd with
  | zero =>
    intro k F e hS h1 h2 h3
    obtain rfl : k = 8 := by omega
    exact b_388_935 kd_201 kd_202 kd_203 kd_204 kd_205 kd_206 kd_207 kd_208 hS ⟨⟨by omega, by omega⟩, ⟨by omega, by omega⟩, fun h => by omega, fun _ => K F hS h1 h2 h3⟩
  | succ dd ih =>
    intro k F e hS h1 h2 h3
    have nx : ∀ v : Int, v = src (8 * f + k) → L_388_935 D nc ns 201 202 203 204 205 206 207 208 1 t y (f : Int) o (((8 * f + k : Nat) : Int) + 1) (m_up (m_up F 208 (8 * f + k) v) 207 (8 * f + k) v) R := by
      rintro v rfl
      refine ih (k + 1) _ (by omega) (St.arr (St.arr hS kd_208 (by decide)) kd_207 (by decide)) (fun i hi hi2 => ?_) (fun i hi => ?_) (fun a ha hb => ?_)
      · by_cases c : i = 8 * f + k
        · rw [c, u_eq, u_ne (Or.inl (by decide)), u_eq]
          exact ⟨rfl, rfl⟩
        · rw [u_ne (Or.inr c), u_ne (Or.inl (by decide)), u_ne (Or.inl (by decide)), u_ne (Or.inr c)]
          exact h1 i hi (by omega)
      · rw [u_ne (Or.inr (by omega)), u_ne (Or.inl (by decide)), u_ne (Or.inl (by decide)), u_ne (Or.inr (by omega))]
        exact h2 i (by omega)
      · rw [up_row ha, up_row hb]
        exact h3 a ha hb
    refine b_388_935 kd_201 kd_202 kd_203 kd_204 kd_205 kd_206 kd_207 kd_208 hS ?_
    simp only [Int.toNat_natCast]
    refine ⟨⟨by omega, by omega⟩, ⟨by omega, by omega⟩, fun _ => ⟨fun ho => ⟨⟨by omega, by omega⟩, ⟨by omega, by omega⟩, ⟨by omega, by omega⟩, ⟨by omega, by omega⟩, ⟨by omega, by omega⟩, nx _ ?_⟩, fun ho => ⟨⟨by omega, by omega⟩, ⟨by omega, by omega⟩, ⟨by omega, by omega⟩, ⟨by omega, by omega⟩, ⟨by omega, by omega⟩, nx _ ?_⟩⟩, fun h => by omega⟩
    · rw [hsrc, if_pos ho]
      exact (h2 (8 * f + k) (Or.inr (Nat.le_refl _))).2
    · rw [hsrc, if_neg ho]
      exact (h2 (8 * f + k) (Or.inr (Nat.le_refl _))).1
end Mp0
