/-! MODES AFTER AN EDIT; EDITS OF THE CLASS -/
theorem i8_of {n f : Nat} (hn : n ∈ m_I1) (hf : f < 3) : n + (11 + 19 * f) ∈ m_I8 := by
  have := io_rows (n := n) (i := (f : Int)) hn (by omega)
  rwa [Int.toNat_natCast] at this
theorem i9_of {n f : Nat} (hn : n ∈ m_I1) (hf : f < 3) : n + (20 + 19 * f) ∈ m_I9 := by
  have := io_trees (n := n) (i := (f : Int)) hn (by omega)
  rwa [Int.toNat_natCast] at this
section M56
variable {n n1 f r : Nat} {X : Nat → List Int} {F : MF}
theorem l_110 (hn1 : n1 ∈ m_I2) (hS : St F) (hL : LinC F n1 X) (hr : r < 24) : ∀ (d j : Nat) (b : Bool), (X r).length ≤ j + d → j ≤ (X r).length →
    L_110_12 n1 (r : Int) (bi b) ((X r).length : Int) (j : Int) F (fun x F' => x = bi (modeL d (X r) j b) ∧ F' = F) m_no := by
  have h24 := hL.le hr
  intro d
  induction d with
  | zero =>
    intro j b h1 h2
    exact b_110_12 hn1 hS ⟨fun h => by omega, fun _ => ⟨bi01 b, rfl, rfl⟩⟩
  | succ d ih =>
    intro j b h1 h2
    unfold modeL
    by_cases e : (X r).length ≤ j
    · rw [if_pos e]
      exact b_110_12 hn1 hS ⟨fun h => by omega, fun _ => ⟨bi01 b, rfl, rfl⟩⟩
    · rw [if_neg e]
      refine b_110_12 hn1 hS ⟨fun _ => ⟨ob_111 hL hr (by omega), ⟨fun h3 => ?_, fun h3 => ?_⟩⟩, fun h => by omega⟩
      · have h4 := (q_111 hL hr).mp h3
        have h5 := turnsb_le h4
        have := ih (j + 2) (!b) (by omega) h5
        rw [show ((j + 2 : Nat) : Int) = (j : Int) + 1 + 1 by omega] at this
        rw [if_pos h4]
        refine ⟨fun h0 => ⟨by omega, by omega, ?_⟩, fun h0 => ⟨by omega, by omega, ?_⟩⟩
        · rw [bi0.mp h0] at this ⊢
          exact this
        · have hb : b = true := by
            cases b
            · exact absurd rfl h0
            · rfl
          rw [hb] at this ⊢
          exact this
      · rw [if_neg (fun e => h3 ((q_111 hL hr).mpr e))]
        exact ⟨by omega, ih (j + 1) b (by omega) (by omega)⟩
theorem s_110 {b : Bool} (hn1 : n1 ∈ m_I2) (hS : St F) (hL : LinC F n1 X) (hr : r < 24) : C_110 n1 (r : Int) (bi b) F (fun x F' => x = bi (modeL 24 (X r) 0 b) ∧ F' = F) m_no := by
  refine c_110 hn1 hS ?_
  rw [q_21 hL hr]
  exact l_110 hn1 hS hL hr 24 0 b (by have := hL.le hr; omega) (Nat.zero_le _)
/-- how many lines are looked at: up to the first one that ends as it did -/
def rlx (a b : Nat → Bool) : Nat → Nat → Nat
  | 0, _ => 0
  | d + 1, i => if a (i + 1) = b (i + 1) then 1 else 1 + rlx a b d (i + 1)
theorem rlx_succ {a b : Nat → Bool} {d i : Nat} : rlx a b (d + 1) i = if a (i + 1) = b (i + 1) then 1 else 1 + rlx a b d (i + 1) := rfl
theorem bi_inj {a b : Bool} : bi a = bi b ↔ a = b := by cases a <;> cases b <;> decide
theorem q_108 {b : Bool} {i : Nat} (h : F (n + 8) i = bi b) (hi : i < 8) : (if p_108 F n (i : Int) then (1 : Int) else 0) = bi b := by
  unfold p_108
  rw [Int.toNat_natCast, h]
  cases b with
  | false => rw [if_neg (fun h2 => h2.2.2 rfl)]; rfl
  | true => rw [if_pos ⟨by omega, by omega, by decide⟩]; rfl
theorem l_109 {mo : Nat → Bool} (hn : n ∈ m_I8) (hn1 : n1 ∈ m_I2) (hf : f < 3) {l0 : Nat} (hmo : ∀ i, l0 < i → i < 8 → mo i = md X f i → mo (i + 1) = md X f (i + 1)) : ∀ (d i lk : Nat) (F : MF), i + d = 8 → l0 ≤ i → lk + d < 100 → St F → LinC F n1 X →
    (∀ k, k < i → F (n + 8) k = bi (md X f (k + 1))) → (∀ k, i ≤ k → k < 8 → F (n + 8) k = bi (mo (k + 1))) →
    L_109_9 n n1 (f : Int) (lk : Int) 1 (i : Int) F (fun x F' => x = ((lk + rlx mo (md X f) d i : Nat) : Int) ∧ (∀ k, k < 8 → F' (n + 8) k = bi (md X f (k + 1))) ∧ fr (fun c => c = n + 8) F F') m_no := by
  intro d
  induction d with
  | zero =>
    intro i lk F hi h0 hlk hS hL hA hB
    exact b_109_9 hn hn1 hS ⟨fun h => absurd h (by decide), fun _ => ⟨fun h => by omega, fun _ => ⟨rfl, fun k hk => hA k (by omega), fr.rf⟩⟩⟩
  | succ d ih =>
    intro i lk F hi h0 hlk hS hL hA hB
    have hap := i2_i8 hn hn1
    have hin : (if p_108 F n ((i : Int) - 1) then (1 : Int) else 0) = bi (md X f i) := by
      cases i with
      | zero =>
        rw [if_neg (fun h2 : p_108 F n (((0 : Nat) : Int) - 1) => h2.1 (by decide))]
        rfl
      | succ i =>
        rw [show ((i + 1 : Nat) : Int) - 1 = (i : Int) by omega]
        exact q_108 (hA i (by omega)) (by omega)
    refine b_109_9 hn hn1 hS ⟨fun h => absurd h (by decide), fun _ => ⟨fun _ => ⟨by omega, by omega, by omega, ?_⟩, fun h => by omega⟩⟩
    rw [hin, show (f : Int) * 8 + (i : Int) = ((8 * f + i : Nat) : Int) by omega]
    refine CaI.on (s_110 hn1 hS hL (by omega)) ?_
    rintro x F1 hS1 ⟨rfl, rfl⟩
    have hx : modeL 24 (X (8 * f + i)) 0 (md X f i) = md X f (i + 1) := rfl
    rw [hx, Int.toNat_natCast, hB i (Nat.le_refl _) (by omega)]
    have hup : fr (fun c => c = n + 8) F1 (m_up F1 (n + 8) i (bi (md X f (i + 1)))) := fr.rf.up (by rfl)
    have hS2 : St (m_up F1 (n + 8) i (bi (md X f (i + 1)))) := hS1.arr (ka_8_7 hn) (by decide)
    have hA2 : ∀ k, k < i + 1 → m_up F1 (n + 8) i (bi (md X f (i + 1))) (n + 8) k = bi (md X f (k + 1)) := fun k hk => by
      by_cases e : k = i
      · rw [e, u_eq]
      · rw [u_ne (Or.inr e)]; exact hA k (by omega)
    refine ⟨by omega, by omega, ⟨fun h1 => ⟨by omega, bi01 _, by omega, ?_⟩, fun h1 => ⟨by omega, bi01 _, by omega, ?_⟩⟩⟩
    · have h2 := bi_inj.mp h1
      have hall : ∀ k, i ≤ k → k < 8 → mo (k + 1) = md X f (k + 1) := by
        intro k
        induction k with
        | zero => intro h3 h4; obtain rfl : i = 0 := (by omega); exact h2.symm
        | succ k ihk =>
          intro h3 h4
          by_cases e : i = k + 1
          · rw [← e]; exact h2.symm
          · exact hmo (k + 1) (by omega) h4 (ihk (by omega) (by omega))
      refine b_109_9 hn hn1 hS2 ⟨fun _ => ⟨?_, fun k hk => ?_, hup⟩, fun h => absurd rfl h⟩
      · unfold rlx
        rw [if_pos h2.symm]
        omega
      · by_cases e : k < i + 1
        · exact hA2 k e
        · rw [u_ne (Or.inr (by omega)), hB k (by omega) hk, hall k (by omega) hk]
    · have := ih (i + 1) (lk + 1) _ (by omega) (by omega) (by omega) hS2 (hL.fr hup (fun e => hap (n1 + 1) (by omega) (by omega) (by omega)) (fun e => hap (n1 + 2) (by omega) (by omega) (by omega))) hA2
        (fun k hk1 hk2 => by rw [u_ne (Or.inr (by omega))]; exact hB k (by omega) hk2)
      rw [show ((i + 1 : Nat) : Int) = (i : Int) + 1 by omega, show ((lk + 1 : Nat) : Int) = (lk : Int) + 1 by omega] at this
      refine EvI.mono this ?_ (fun _ _ _ h => h)
      rintro x F' _ ⟨rfl, h3, h4⟩
      refine ⟨?_, h3, hup.tr h4⟩
      rw [rlx_succ, if_neg (fun e => h1 (bi_inj.mpr e.symm))]
      omega
theorem s_109 {mo : Nat → Bool} {ln : Nat} (hn : n ∈ m_I8) (hn1 : n1 ∈ m_I2) (hf : f < 3) (hln : ln < 8) (hS : St F) (hL : LinC F n1 X)
    (hmo : ∀ i, ln < i → i < 8 → mo i = md X f i → mo (i + 1) = md X f (i + 1)) (hlo : ∀ k, k < ln → mo (k + 1) = md X f (k + 1)) (hB : ∀ k, k < 8 → F (n + 8) k = bi (mo (k + 1))) :
    C_109 n n1 (f : Int) (ln : Int) F (fun x F' => x = (rlx mo (md X f) (8 - ln) ln : Nat) ∧ (∀ k, k < 8 → F' (n + 8) k = bi (md X f (k + 1))) ∧ fr (fun c => c = n + 8) F F') m_no := by
  refine c_109 hn hn1 hS ?_
  refine EvI.mono (l_109 hn hn1 hf hmo (8 - ln) ln 0 F (by omega) (Nat.le_refl _) (by omega) hS hL (fun k hk => by rw [hB k (by omega), hlo k hk]) (fun k _ hk => hB k hk)) ?_ (fun _ _ _ h => h)
  rintro x F' _ ⟨rfl, h⟩
  exact ⟨by rw [Nat.zero_add], h⟩
/-- modes of all lines as they are kept -/
def Ends (F : MF) (X : Nat → List Int) : Prop := ∀ f, f < 3 → ∀ k, k < 8 → F (1 + (11 + 19 * f) + 8) k = bi (md X f (k + 1))
/-- the number of lines that an edit of a line has looked at -/
def relx (X Y : Nat → List Int) (f ln : Nat) : Nat := rlx (md X f) (md Y f) (8 - ln) ln
theorem s_187 {Y : Nat → List Int} {f ln : Nat} {l : List Int} {w : Int} (hf : f < 3) (hln : ln < 8) (hS : St F) (hY : Y = rupd X (8 * f + ln) l) (hL : LinC F 2 Y) (hE : Ends F X) :
    C_187 (f : Int) (ln : Int) w F (fun F' => Ends F' Y ∧ F' 0 9 = relx X Y f ln ∧ F' 1 6 = 1 ∧ F' 109 8 = (if w = 0 then F 109 8 else 1) ∧
      (∀ j, j ≠ 9 → F' 0 j = F 0 j) ∧ (∀ j, j ≠ 6 → F' 1 j = F 1 j) ∧ (∀ j, j ≠ 8 → F' 109 j = F 109 j) ∧ fr (fun c => c = 0 ∨ c = 1 ∨ c = 109 ∨ c = 1 + (11 + 19 * f) + 8) F F') m_no := by
  have hn8 := i8_of (f := f) mi_1 hf
  have hrow : ∀ i, i ≠ 8 * f + ln → Y i = X i := fun i hi => by rw [hY]; exact upd_ne hi
  refine c_187 hS ⟨by omega, ?_⟩
  rw [Int.toNat_natCast]
  refine CaI.on (s_109 (mo := md X f) hn8 mi_2 hf hln hS hL (fun i h1 h2 h3 => ?_) (fun k hk => ?_) (fun k hk => hE f hf k hk)) ?_
  · show modeL 24 (X (8 * f + i)) 0 (md X f i) = modeL 24 (Y (8 * f + i)) 0 (md Y f i)
    rw [h3, hrow (8 * f + i) (by omega)]
  · exact md_same (k + 1) (fun i hi => (hrow _ (by omega)).symm)
  rintro x F1 hS1 ⟨rfl, h2, h3⟩
  have hE2 : Ends F1 Y := by
    intro g hg k hk
    by_cases e : g = f
    · rw [e]; exact h2 k hk
    · rw [h3 _ (by omega), hE g hg k hk, md_same (k + 1) (fun i hi => (hrow _ (by omega)).symm)]
  have h0 : F1 0 = F 0 := h3 _ (by omega)
  have h1 : F1 1 = F 1 := h3 _ (by omega)
  have h9 : F1 109 = F 109 := h3 _ (by omega)
  have hE3 : ∀ (a b : Int), Ends (m_up (m_up F1 0 9 a) 1 6 b) Y := fun a b g hg k hk => by
    rw [u_ne (Or.inl (by omega)), u_ne (Or.inl (by omega))]
    exact hE2 g hg k hk
  have hf3 : fr (fun c => c = 0 ∨ c = 1 ∨ c = 109 ∨ c = 1 + (11 + 19 * f) + 8) F F1 := h3.mo (fun c h => by omega)
  refine ⟨fun hw => ?_, fun hw => c_34 ((hS1.fld kd_0 rk_11_9).fld kd_1 rk_1_6) ?_⟩
  · refine ⟨hE3 _ _, ?_, u_eq, ?_, fun j hj => ?_, fun j hj => ?_, fun j hj => ?_, (hf3.up (Or.inl rfl)).up (Or.inr (Or.inl rfl))⟩
    · rw [u_ne (Or.inl (by decide)), u_eq]; rfl
    · rw [if_pos hw, u_ne (Or.inl (by decide)), u_ne (Or.inl (by decide)), h9]
    · rw [u_ne (Or.inl (by decide)), u_ne (Or.inr hj), h0]
    · rw [u_ne (Or.inr hj), u_ne (Or.inl (by decide)), h1]
    · rw [u_ne (Or.inl (by decide)), u_ne (Or.inl (by decide)), h9]
  · refine ⟨fun g hg k hk => ?_, ?_, ?_, ?_, fun j hj => ?_, fun j hj => ?_, fun j hj => ?_, ((hf3.up (Or.inl rfl)).up (Or.inr (Or.inl rfl))).up (Or.inr (Or.inr (Or.inl rfl)))⟩
    · rw [u_ne (Or.inl (by omega))]
      exact hE3 _ _ g hg k hk
    · rw [u_ne (Or.inl (by decide)), u_ne (Or.inl (by decide)), u_eq]; rfl
    · rw [u_ne (Or.inl (by decide)), u_eq]
    · rw [if_neg hw, u_eq]
    · rw [u_ne (Or.inl (by decide)), u_ne (Or.inl (by decide)), u_ne (Or.inr hj), h0]
    · rw [u_ne (Or.inl (by decide)), u_ne (Or.inr hj), u_ne (Or.inl (by decide)), h1]
    · rw [u_ne (Or.inr hj), u_ne (Or.inl (by decide)), u_ne (Or.inl (by decide)), h9]
/-- how many of the lines of a file are otherwise, up to one -/
def dif (X Y : Nat → List Int) (f : Nat) : Nat → Nat
  | 0 => 0
  | k + 1 => dif X Y f k + (if X (8 * f + k) = Y (8 * f + k) then 0 else 1)
def cpf (X Y : Nat → List Int) (f k : Nat) : Nat → List Int := fun r => if 8 * f ≤ r ∧ r < 8 * f + k then X r else Y r
theorem cpf_step {X Y : Nat → List Int} {f k : Nat} : rupd (cpf X Y f k) (8 * f + k) (X (8 * f + k)) = cpf X Y f (k + 1) := by
  funext r
  unfold rupd cpf
  by_cases e : r = 8 * f + k
  · rw [if_pos e, if_pos (by omega), e]
  · rw [if_neg e]
    by_cases e2 : 8 * f ≤ r ∧ r < 8 * f + k
    · rw [if_pos e2, if_pos (by omega)]
    · rw [if_neg e2, if_neg (by omega)]
theorem dif_le {X Y : Nat → List Int} {f : Nat} : ∀ k, dif X Y f k ≤ k := by
  intro k
  induction k with
  | zero => exact Nat.le_refl _
  | succ k ih => unfold dif; split <;> omega
theorem i2_ne {n n1 : Nat} (h : n ∈ m_I2) (h1 : n1 ∈ m_I2) (hne : n ≠ n1) : n + 3 < n1 ∨ n1 + 3 < n := by
  unfold m_I2 at h h1
  simp only [List.mem_cons, List.not_mem_nil, or_false] at h h1
  omega
theorem l_190 {Y : Nat → List Int} (hn : n ∈ m_I2) (hn1 : n1 ∈ m_I2) (hne : n ≠ n1) (hf : f < 3) : ∀ (d k : Nat) (F : MF), k + d = 8 → St F → LinC F n X → LinC F n1 (cpf X Y f k) →
    L_190_8 n n1 (f : Int) (dif X Y f k : Nat) ((8 * f + k : Nat) : Int) F (fun x F' => x = (dif X Y f 8 : Nat) ∧ LinC F' n1 (cpf X Y f 8) ∧ fr (fun c => c = n1 + 1 ∨ c = n1 + 2 ∨ c = n1 + 3) F F') m_no := by
  have hap := i2_ne hn hn1 hne
  intro d
  induction d with
  | zero =>
    intro k F hk hS hX hY
    obtain rfl : k = 8 := by omega
    exact b_190_8 hn hn1 hS ⟨by omega, by omega, ⟨fun h => by omega, fun _ => ⟨rfl, hY, fr.rf⟩⟩⟩
  | succ d ih =>
    intro k F hk hS hX hY
    have hdl := dif_le (X := X) (Y := Y) (f := f) k
    have hrow : cpf X Y f k (8 * f + k) = Y (8 * f + k) := by unfold cpf; rw [if_neg (by omega)]
    refine b_190_8 hn hn1 hS ⟨by omega, by omega, ⟨fun _ => ?_, fun h => by omega⟩⟩
    refine CaI.on (s_29 hn1 hn hS hY hX (by omega)) ?_
    rintro x F1 hS1 ⟨rfl, rfl⟩
    rw [hrow]
    have go : ∀ (v : Int), v = (dif X Y f (k + 1) : Nat) → C_27 n1 n ((8 * f + k : Nat) : Int) ((8 * f + k : Nat) : Int) F1 (fun F9 => (-2147483648 ≤ (((8 * f + k : Nat) : Int) + 1) ∧ (((8 * f + k : Nat) : Int) + 1) < 2147483648) ∧ L_190_8 n n1 (f : Int) v (((8 * f + k : Nat) : Int) + 1) F9 (fun x F' => x = (dif X Y f 8 : Nat) ∧ LinC F' n1 (cpf X Y f 8) ∧ fr (fun c => c = n1 + 1 ∨ c = n1 + 2 ∨ c = n1 + 3) F1 F') m_no) m_no := by
      rintro v rfl
      refine CaV.on (s_27 hn1 hn hS1 hY hX (by omega) (by omega)) ?_
      rintro F2 hS2 ⟨h1, -, h3⟩
      rw [cpf_step] at h1
      have := ih (k + 1) F2 (by omega) hS2 (hX.fr h3 (by omega) (by omega)) h1
      rw [show ((8 * f + (k + 1) : Nat) : Int) = ((8 * f + k : Nat) : Int) + 1 by omega] at this
      exact ⟨by omega, EvI.mono this (fun x F' _ h => ⟨h.1, h.2.1, h3.tr h.2.2⟩) (fun _ _ _ h => h)⟩
    refine ⟨fun h => ⟨by omega, ?_⟩, fun h => ?_⟩
    · refine go _ ?_
      have hne2 : ¬ X (8 * f + k) = Y (8 * f + k) := fun e => by rw [e, if_pos rfl] at h; cases h
      show _ = ((dif X Y f k + (if X (8 * f + k) = Y (8 * f + k) then 0 else 1) : Nat) : Int)
      rw [if_neg hne2]
      omega
    · refine go _ ?_
      have he : X (8 * f + k) = Y (8 * f + k) := Decidable.of_not_not (fun e => h (by rw [if_neg (fun e2 => e e2.symm)]))
      show _ = ((dif X Y f k + (if X (8 * f + k) = Y (8 * f + k) then 0 else 1) : Nat) : Int)
      rw [if_pos he, Nat.add_zero]
theorem s_190 {Y : Nat → List Int} (hn : n ∈ m_I2) (hn1 : n1 ∈ m_I2) (hne : n ≠ n1) (hf : f < 3) (hS : St F) (hX : LinC F n X) (hY : LinC F n1 Y) :
    C_190 n n1 (f : Int) F (fun x F' => x = (dif X Y f 8 : Nat) ∧ LinC F' n1 (cpf X Y f 8) ∧ fr (fun c => c = n1 + 1 ∨ c = n1 + 2 ∨ c = n1 + 3) F F') m_no := by
  refine c_190 hn hn1 hS ⟨by omega, ?_⟩
  have h0 : cpf X Y f 0 = Y := by
    funext r
    unfold cpf
    rw [if_neg (by omega)]
  have := l_190 (Y := Y) hn hn1 hne hf 8 0 F rfl hS hX (by rw [h0]; exact hY)
  rw [show ((8 * f + 0 : Nat) : Int) = (f : Int) * 8 by omega] at this
  exact this
end M56
