/-! TOKENS OF THE CLASS ARE THOSE THAT ARE MEANT -/
def bi (b : Bool) : Int := if b = true then 1 else 0
theorem bi0 {b : Bool} : bi b = 0 ↔ b = false := by cases b <;> decide
theorem bi01 (b : Bool) : bi b = 0 ∨ bi b = 1 := by cases b <;> decide
abbrev TT : Type := List (Int × Nat × Nat × Nat)
def tk (T : TT) (k : Nat) : Int × Nat × Nat × Nat := T.getD k (24, 0, 0, 0)
theorem tk_app (T U : TT) (k : Nat) : tk (T ++ U) k = if k < T.length then tk T k else tk U (k - T.length) := by
  unfold tk
  rw [List.getD_eq_getElem?_getD, List.getD_eq_getElem?_getD, List.getD_eq_getElem?_getD, List.getElem?_append]
  split <;> rfl
theorem tk_mem {T : TT} {k : Nat} (h : k < T.length) : tk T k ∈ T := by
  unfold tk
  rw [List.getD_eq_getElem?_getD, List.getElem?_eq_getElem h]
  exact List.getElem_mem h
def TokAt (K L C S : Nat → Int) (o : Nat) (T : TT) : Prop := ∀ k, k < T.length → K (o + k) = (tk T k).1 ∧ L (o + k) = ((tk T k).2.1 : Int) ∧ C (o + k) = ((tk T k).2.2.1 : Int) ∧ S (o + k) = ((tk T k).2.2.2 : Int)
theorem TokAt.push {K L C S K' L' C' S' : Nat → Int} {o : Nat} {T : TT} {t : Int × Nat × Nat × Nat} (h : TokAt K L C S o T)
    (h1 : ∀ k, k < o + T.length → K' k = K k ∧ L' k = L k ∧ C' k = C k ∧ S' k = S k) (h2 : K' (o + T.length) = t.1 ∧ L' (o + T.length) = (t.2.1 : Int) ∧ C' (o + T.length) = (t.2.2.1 : Int) ∧ S' (o + T.length) = (t.2.2.2 : Int)) : TokAt K' L' C' S' o (T ++ [t]) := by
  intro k hk
  rw [List.length_append, List.length_singleton] at hk
  rw [tk_app]
  by_cases e : k < T.length
  · rw [if_pos e]
    obtain ⟨a, b, c, d⟩ := h1 (o + k) (by omega)
    rw [a, b, c, d]
    exact h k e
  · rw [if_neg e]
    obtain rfl : k = T.length := by omega
    rw [Nat.sub_self]
    exact h2
def TokC (F : MF) (n : Nat) (T : TT) : Prop := F n 8 = (T.length : Int) ∧ TokAt (F (n + 1)) (F (n + 2)) (F (n + 3)) (F (n + 4)) 0 T
section M54
variable {n n1 m r : Nat} {X : Nat → List Int}
theorem s_436 {F : MF} {z a b : Int} (hS : St F) (h : a ≤ b ∧ 0 ≤ a ∧ b ≤ z) : C_436 z a b F (fun F' => F' = F) m_no :=
  c_436 hS ⟨fun _ => by omega, fun _ => b_436_46 hS ⟨fun _ => by omega, fun _ => ⟨fun _ => by omega, fun _ => rfl⟩⟩⟩
theorem l_434 {a z b : Nat} {v : Int} (hk : m_KD[a]? = some (100, z)) (hz : b ≤ z) (hz2 : z < 100000) : ∀ (d i : Nat) (F : MF), i + d = b → St F →
    L_434_10 a (b : Int) v (i : Int) F (fun F' => F' a = (fun k => if i ≤ k ∧ k < b then v else F a k) ∧ fr (fun c => c = a) F F') m_no := by
  intro d
  induction d with
  | zero =>
    intro i F hi hS
    refine b_434_10 hk hS ⟨fun h => by omega, fun _ => ⟨?_, fr.rf⟩⟩
    funext k
    rw [if_neg (by omega)]
  | succ d ih =>
    intro i F hi hS
    refine b_434_10 hk hS ⟨fun _ => ⟨by omega, by omega, ?_⟩, fun h => by omega⟩
    rw [Int.toNat_natCast]
    refine EvV.mono (ih (i + 1) (m_up F a i v) (by omega) (hS.arr hk (by decide))) ?_ (fun _ _ _ h => h)
    rintro F' _ ⟨h1, h2⟩
    refine ⟨?_, (fr.rf.up (by rfl)).tr h2⟩
    rw [h1]
    funext k
    by_cases e : k = i
    · rw [if_neg (by omega), if_pos (by omega), e, u_eq]
    · rw [u_ne (Or.inr e)]
      by_cases h3 : i + 1 ≤ k ∧ k < b
      · rw [if_pos h3, if_pos (by omega)]
      · rw [if_neg h3, if_neg (by omega)]
theorem s_434 {F : MF} {a z b i : Nat} {v : Int} (hk : m_KD[a]? = some (100, z)) (hz : b ≤ z) (hz2 : z < 100000) (hi : i ≤ b) (hS : St F) :
    C_434 a (i : Int) (b : Int) v F (fun F' => F' a = (fun k => if i ≤ k ∧ k < b then v else F a k) ∧ fr (fun c => c = a) F F') m_no := by
  refine c_434 hk hS (CaV.on (s_436 hS (by omega)) ?_)
  rintro F1 hS1 rfl
  exact l_434 hk hz hz2 (b - i) i _ (by omega) hS
theorem l_433 {a z : Nat} {v : Int} (hk : m_KD[a]? = some (100, z)) (hz2 : z < 100000) : ∀ (d i : Nat) (F : MF), i + d = z → St F →
    L_433_5 a v (i : Int) (z : Int) F (fun F' => (∀ k, i ≤ k → k < z → F' a k = v) ∧ (∀ k, ¬ (i ≤ k ∧ k < z) → F' a k = F a k) ∧ fr (fun c => c = a) F F') m_no := by
  intro d
  induction d with
  | zero =>
    intro i F hi hS
    exact b_433_5 hk hS ⟨fun h => by omega, fun _ => ⟨fun k h1 h2 => by omega, fun _ _ => rfl, fr.rf⟩⟩
  | succ d ih =>
    intro i F hi hS
    refine b_433_5 hk hS ⟨fun _ => ⟨by omega, by omega, ?_⟩, fun h => by omega⟩
    rw [Int.toNat_natCast]
    refine EvV.mono (ih (i + 1) (m_up F a i v) (by omega) (hS.arr hk (by decide))) ?_ (fun _ _ _ h => h)
    rintro F' _ ⟨h1, h3, h2⟩
    refine ⟨fun k hk1 hk2 => ?_, fun k hk1 => ?_, (fr.rf.up (by rfl)).tr h2⟩
    · by_cases e : k = i
      · rw [h3 k (by omega), e, u_eq]
      · exact h1 k (by omega) hk2
    · rw [h3 k (by omega), u_ne (Or.inr (by omega))]
theorem s_433 {F : MF} {a z : Nat} {v : Int} (hk : m_KD[a]? = some (100, z)) (hz2 : z < 100000) (hS : St F) :
    C_433 a v F (fun F' => (∀ k, k < z → F' a k = v) ∧ fr (fun c => c = a) F F') m_no :=
  c_433 hk hS (EvV.mono (l_433 hk hz2 z 0 F (by omega) hS) (fun F' _ h => ⟨fun k hk => h.1 k (Nat.zero_le _) hk, h.2.2⟩) (fun _ _ _ h => h))
theorem q_111 {F : MF} {b : Bool} {j : Nat} (h : LinC F n1 X) (hr : r < 24) : p_111 F n1 (r : Int) (j : Int) (bi b) ↔ turnsb (X r) j b = true := by
  unfold p_111 turnsb
  rw [q_22 h hr, q_22 h hr]
  cases b with
  | false =>
    show (((0 : Int) = 0 ∧ _) ∨ _) ↔ _
    simp [bi]
  | true =>
    simp [bi]
theorem ob_111 {F : MF} {b : Bool} {j : Nat} (h : LinC F n1 X) (hr : r < 24) (hj : j < 1000) : o_111 F n1 (r : Int) (j : Int) (bi b) := by
  unfold o_111
  exact ⟨ob_22 h hr _, by omega, ob_22 h hr _, ⟨fun _ => ⟨fun _ => ⟨fun _ => trivial, fun _ => trivial⟩, fun _ => trivial⟩, fun _ => ⟨fun _ => ⟨fun _ => trivial, fun _ => trivial⟩, fun _ => trivial⟩⟩⟩
/-- the cells that the gathering of a line changes -/
def GP (n : Nat) : Nat → Prop := fun c => c = n ∨ (n + 1 ≤ c ∧ c ≤ n + 5) ∨ c = n + 7
def PN (F : MF) (n k : Nat) : Prop := ∀ i, i < k → F (n + 5) i = -1
def tln (m : Nat) (U : List (Int × Nat × Nat)) : TT := U.map (fun t => (t.1, m, t.2.1, t.2.2))
theorem tln_app (m : Nat) (U V : List (Int × Nat × Nat)) : tln m (U ++ V) = tln m U ++ tln m V := List.map_append
def GL (n m : Nat) (F : MF) (T : TT) (L : List (Int × Nat × Nat) × List Int × Bool) (j len : Nat) (x : Int) (F' : MF) : Prop :=
  x = bi L.2.2 ∧ TokC F' n (T ++ tln m L.1) ∧ PN F' n (T.length + L.1.length) ∧ (∀ i, i < len - j → F' (n + 7) (24 * m + j + i) = gx L.2.1 i) ∧
  (∀ q, ¬ (24 * m + j ≤ q ∧ q < 24 * m + len) → F' (n + 7) q = F (n + 7) q) ∧ fr (GP n) F F'
theorem GL_step {F F2 F' : MF} {T : TT} {U : List (Int × Nat × Nat)} {L : List (Int × Nat × Nat) × List Int × Bool} {j s len : Nat} {v x : Int}
    (h : GL n m F2 (T ++ tln m U) L (j + s) len x F') (hs : j + s ≤ len) (ho : ∀ i, i < s → F2 (n + 7) (24 * m + j + i) = v)
    (hq : ∀ q, ¬ (24 * m + j ≤ q ∧ q < 24 * m + j + s) → F2 (n + 7) q = F (n + 7) q) (hf : fr (GP n) F F2) : GL n m F T (U ++ L.1, List.replicate s v ++ L.2.1, L.2.2) j len x F' := by
  obtain ⟨h1, h2, h6, h3, h4, h5⟩ := h
  refine ⟨h1, ?_, ?_, fun i hi => ?_, fun q hq2 => ?_, hf.tr h5⟩
  · show TokC F' n (T ++ tln m (U ++ L.1))
    rw [tln_app, ← List.append_assoc]
    exact h2
  · show PN F' n (T.length + (U ++ L.1).length)
    unfold tln at h6
    rw [List.length_append, List.length_map] at h6
    rw [List.length_append, ← Nat.add_assoc]
    exact h6
  · show _ = gx (List.replicate s v ++ L.2.1) i
    rw [gx_app, List.length_replicate]
    by_cases e : i < s
    · rw [if_pos e, h4 _ (by omega), ho i e]
      unfold gx
      rw [List.getD_eq_getElem?_getD, List.getElem?_replicate, if_pos e]
      rfl
    · rw [if_neg e, ← h3 (i - s) (by omega), show 24 * m + (j + s) + (i - s) = 24 * m + j + i by omega]
  · rw [h4 q (by omega), hq q (by omega)]
/-- the end of a turn: owners are laid, and the next turn begins -/
theorem l_113t {x2 x5 x6 x8 v : Int} {F : MF} {j s : Nat} {R : Int → MF → Prop} (hn : n ∈ m_I8) (hn1 : n1 ∈ m_I2) (hS : St F) (hm : m < 8) (hj : j + s ≤ 24) (h8 : 0 ≤ x8 ∧ x8 < 24)
    (K : ∀ F2, St F2 → F2 (n + 7) = (fun k => if 24 * m + j ≤ k ∧ k < 24 * m + j + s then v else F (n + 7) k) → fr (fun c => c = n + 7) F F2 → L_113_17 n n1 x2 (m : Int) x5 x6 ((j : Int) + (s : Int)) (x8 + 1) F2 R m_no) :
    L_113_129 n n1 x2 (m : Int) x5 x6 (j : Int) x8 (s : Int) v F R m_no := by
  refine b_113_129 hn hn1 hS ⟨by omega, by omega, by omega, ?_⟩
  have e1 : g_438 F 192 ((m : Int) * 24 + (j : Int) + (s : Int)) = ((24 * m + j + s : Nat) : Int) := by
    unfold g_438
    split <;> omega
  have e2 : (m : Int) * 24 + (j : Int) = ((24 * m + j : Nat) : Int) := by omega
  rw [e1, e2]
  refine CaV.on (s_434 (ka_8_6 hn) (by omega) (by omega) (by omega) hS) ?_
  rintro F2 hS2 ⟨h1, h2⟩
  exact ⟨by omega, by omega, K F2 hS2 h1 h2⟩
theorem s_114 {F : MF} {T : TT} {k : Int} {c s : Nat} (hn : n ∈ m_I8) (hS : St F) (hT : TokC F n T) (hl : T.length < 192) (hP : PN F n T.length) :
    C_114 n k (m : Int) (c : Int) (s : Int) F (fun F' => TokC F' n (T ++ [(k, m, c, s)]) ∧ PN F' n (T.length + 1) ∧ fr (fun c => c = n ∨ (n + 1 ≤ c ∧ c ≤ n + 5)) F F') m_no := by
  refine c_114 hn hS ?_
  rw [hT.1, Int.toNat_natCast]
  refine ⟨fun _ => ⟨by omega, by omega, by omega, by omega, by omega, by omega, ⟨?_, ?_⟩, fun i hi => ?_, ?_⟩, fun h => by omega⟩
  · rw [u_eq, List.length_append, List.length_singleton]
    omega
  · refine hT.2.push (fun i hi => ?_) ?_
    · have hi2 : i ≠ T.length := by omega
      refine ⟨?_, ?_, ?_, ?_⟩
      · rw [u_ne (Or.inl (by omega)), u_ne (Or.inl (by omega)), u_ne (Or.inl (by omega)), u_ne (Or.inl (by omega)), u_ne (Or.inl (by omega)), u_ne (Or.inr hi2)]
      · rw [u_ne (Or.inl (by omega)), u_ne (Or.inl (by omega)), u_ne (Or.inl (by omega)), u_ne (Or.inl (by omega)), u_ne (Or.inr hi2), u_ne (Or.inl (by omega))]
      · rw [u_ne (Or.inl (by omega)), u_ne (Or.inl (by omega)), u_ne (Or.inl (by omega)), u_ne (Or.inr hi2), u_ne (Or.inl (by omega)), u_ne (Or.inl (by omega))]
      · rw [u_ne (Or.inl (by omega)), u_ne (Or.inl (by omega)), u_ne (Or.inr hi2), u_ne (Or.inl (by omega)), u_ne (Or.inl (by omega)), u_ne (Or.inl (by omega))]
    · rw [Nat.zero_add]
      refine ⟨?_, ?_, ?_, ?_⟩
      · rw [u_ne (Or.inl (by omega)), u_ne (Or.inl (by omega)), u_ne (Or.inl (by omega)), u_ne (Or.inl (by omega)), u_ne (Or.inl (by omega)), u_eq]
      · rw [u_ne (Or.inl (by omega)), u_ne (Or.inl (by omega)), u_ne (Or.inl (by omega)), u_ne (Or.inl (by omega)), u_eq]
      · rw [u_ne (Or.inl (by omega)), u_ne (Or.inl (by omega)), u_ne (Or.inl (by omega)), u_eq]
      · rw [u_ne (Or.inl (by omega)), u_ne (Or.inl (by omega)), u_eq]
  · rw [u_ne (Or.inl (by omega))]
    by_cases e : i = T.length
    · rw [e, u_eq]
    · rw [u_ne (Or.inr e), u_ne (Or.inl (by omega)), u_ne (Or.inl (by omega)), u_ne (Or.inl (by omega)), u_ne (Or.inl (by omega))]
      exact hP i (by omega)
  · exact ((((((fr.rf.up (Or.inr ⟨by omega, by omega⟩)).up (Or.inr ⟨by omega, by omega⟩)).up (Or.inr ⟨by omega, by omega⟩)).up (Or.inr ⟨by omega, by omega⟩)).up (Or.inr ⟨by omega, by omega⟩)).up (Or.inl rfl))
theorem TokC.fr {F F' : MF} {T : TT} {P : Nat → Prop} (h : TokC F n T) (hf : fr P F F') (hp : ∀ c, n ≤ c → c ≤ n + 4 → ¬ P c) : TokC F' n T := by
  unfold TokC
  rw [hf n (hp _ (by omega) (by omega)), hf _ (hp (n + 1) (by omega) (by omega)), hf _ (hp (n + 2) (by omega) (by omega)), hf _ (hp (n + 3) (by omega) (by omega)), hf _ (hp (n + 4) (by omega) (by omega))]
  exact h
/-- rows of lines lie apart from rows of tokens -/
theorem i2_i8 {n n1 : Nat} (h : n ∈ m_I8) (h1 : n1 ∈ m_I2) : ∀ c, n1 ≤ c → c ≤ n1 + 3 → ¬ (n ≤ c ∧ c ≤ n + 8) := by
  unfold m_I8 at h
  unfold m_I2 at h1
  simp only [List.mem_cons, List.not_mem_nil, or_false] at h h1
  intro c h2 h3
  omega
theorem l_113 (hn : n ∈ m_I8) (hn1 : n1 ∈ m_I2) (hr : r < 24) (hm : m < 8) : ∀ (k : Nat) (j : Nat) (b : Bool) (F : MF) (T : TT), k ≤ 24 → (X r).length ≤ j + k → j ≤ (X r).length → St F → LinC F n1 X → TokC F n T → PN F n T.length → T.length ≤ 24 * m + j →
    L_113_17 n n1 (r : Int) (m : Int) (bi b) ((X r).length : Int) (j : Int) (24 - (k : Int)) F (GL n m F T (lexL k (X r) j b T.length) j (X r).length) m_no := by
  intro k
  induction k with
  | zero =>
    intro j b F T hk hl hj hS hL hT hP hTl
    refine b_113_17 hn hn1 hS ⟨fun h => by omega, fun _ => ⟨bi01 b, rfl, ?_, hP, fun i hi => by omega, fun _ _ => rfl, fr.rf⟩⟩
    show TokC F n (T ++ [])
    rw [List.append_nil]
    exact hT
  | succ k ih =>
    intro j b F T hk hl hj hS hL hT hP hTl
    have h24 := hL.le hr
    have hap := i2_i8 hn hn1
    unfold lexL
    by_cases e : (X r).length ≤ j
    · rw [if_pos e]
      refine b_113_17 hn hn1 hS ⟨fun _ => ⟨fun h => by omega, fun _ => ⟨bi01 b, rfl, ?_, hP, fun i hi => by omega, fun _ _ => rfl, fr.rf⟩⟩, fun h => by omega⟩
      show TokC F n (T ++ [])
      rw [List.append_nil]
      exact hT
    · rw [if_neg e]
      -- one turn without a token
      have go : ∀ (b2 : Bool) (s : Nat) (v : Int), 1 ≤ s → j + s ≤ (X r).length → L_113_129 n n1 (r : Int) (m : Int) (bi b2) ((X r).length : Int) (j : Int) (24 - ((k + 1 : Nat) : Int)) (s : Int) v F
          (GL n m F T ((lexL k (X r) (j + s) b2 T.length).1, List.replicate s v ++ (lexL k (X r) (j + s) b2 T.length).2.1, (lexL k (X r) (j + s) b2 T.length).2.2) j (X r).length) m_no := by
        intro b2 s v hs1 hs2
        refine l_113t hn hn1 hS hm (by omega) (by omega) (fun F2 hS2 h1 h2 => ?_)
        have hL2 : LinC F2 n1 X := hL.fr h2 (fun e => hap (n1 + 1) (by omega) (by omega) (by omega)) (fun e => hap (n1 + 2) (by omega) (by omega) (by omega))
        have := ih (j + s) b2 F2 T (by omega) (by omega) (by omega) hS2 hL2 (hT.fr h2 (fun c h3 h4 => by omega)) (fun i hi => by rw [h2 _ (by omega)]; exact hP i hi) (by omega)
        rw [show ((j + s : Nat) : Int) = (j : Int) + (s : Int) by omega, show 24 - (k : Int) = 24 - ((k + 1 : Nat) : Int) + 1 by omega] at this
        refine EvI.mono this ?_ (fun _ _ _ h => h)
        intro x F' _ hg
        refine GL_step (U := []) (F2 := F2) (by show GL n m F2 (T ++ []) _ _ _ _ _; rw [List.append_nil]; exact hg) hs2 (fun i hi => ?_) (fun q hq => ?_) (h2.mo (fun c h => Or.inr (Or.inr h)))
        · rw [h1]; exact if_pos (by omega)
        · rw [h1]; exact if_neg hq
      refine b_113_17 hn hn1 hS ⟨fun _ => ⟨fun _ => ⟨ob_111 hL hr (by omega), ?_⟩, fun h => by omega⟩, fun h => by omega⟩
      rw [q_22 hL hr, sgn_in (by omega)]
      refine ⟨fun h1 => ?_, fun h1 => ?_⟩
      · have h1' := (q_111 hL hr).mp h1
        have h2 := turnsb_le h1'
        rw [if_pos h1']
        have := go (!b) 2 (-2) (by omega) h2
        refine ⟨fun h0 => ?_, fun h0 => ?_⟩
        · rw [bi0.mp h0] at this ⊢
          exact this
        · have hb : b = true := by
            cases b
            · exact absurd rfl h0
            · rfl
          rw [hb] at this ⊢
          exact this
      · have h1' : ¬ turnsb (X r) j b = true := fun e => h1 ((q_111 hL hr).mpr e)
        rw [if_neg h1']
        refine ⟨fun h0 => ⟨ob_22 hL hr _, ?_⟩, fun h0 => ?_⟩
        · have hb := bi0.mp h0
          rw [if_neg (by rw [hb]; decide)]
          refine ⟨fun h2 => ?_, fun h2 => ?_⟩
          · rw [if_pos h2]
            exact go b 1 (-1) (by omega) (by omega)
          · rw [if_neg h2]
            have hs1 := span_pos (X r) j (by omega)
            have hs2 := span_le (X r) j (by omega)
            refine b_113_91 hn hn1 hS ⟨fun _ => ?_, fun h => absurd h0 h⟩
            refine CaI.on (s_115 hn1 hS hL hr (by omega)) ?_
            rintro x1 F1 hS1 ⟨rfl, rfl⟩
            refine CaI.on (s_116 hn1 hS1 hL hr hs1 hs2) ?_
            rintro x2 F1 hS2 ⟨rfl, rfl⟩
            refine CaV.on (s_114 hn hS2 hT (by omega) hP) ?_
            rintro F3 hS3 ⟨hT3, hP3, hf3⟩
            rw [hT.1]
            refine l_113t hn hn1 hS3 hm (by omega) (by omega) (fun F2 hS2 h1 h2 => ?_)
            have hf : fr (GP n) _ F2 := (hf3.mo (fun c h => by unfold GP; omega)).tr (h2.mo (fun c h => Or.inr (Or.inr h)))
            have hL2 : LinC F2 n1 X := hL.fr hf (fun e => hap (n1 + 1) (by omega) (by omega) (by unfold GP at e; omega)) (fun e => hap (n1 + 2) (by omega) (by omega) (by unfold GP at e; omega))
            have := ih (j + span (X r) j) b F2 _ (by omega) (by omega) hs2 hS2 hL2 (hT3.fr h2 (fun c h3 h4 => by omega)) (fun i hi => by
              rw [h2 _ (by omega)]
              rw [List.length_append, List.length_singleton] at hi
              exact hP3 i hi) (by rw [List.length_append, List.length_singleton]; omega)
            rw [show ((j + span (X r) j : Nat) : Int) = (j : Int) + (span (X r) j : Int) by omega, show 24 - (k : Int) = 24 - ((k + 1 : Nat) : Int) + 1 by omega] at this
            refine EvI.mono this ?_ (fun _ _ _ h => h)
            intro x F' _ hg
            rw [List.length_append, List.length_singleton] at hg
            refine GL_step (U := [(clsw (seg (X r) j (span (X r) j)), j, span (X r) j)]) (F2 := F2) hg hs2 (fun i hi => ?_) (fun q hq => ?_) hf
            · rw [h1]; exact if_pos (by omega)
            · rw [h1]; exact (if_neg hq).trans (by rw [hf3 _ (by omega)])
        · have hb : b = true := by
            cases b
            · exact absurd rfl h0
            · rfl
          rw [if_pos hb]
          refine b_113_91 hn hn1 hS ⟨fun h => absurd h h0, fun _ => ?_⟩
          exact go b 1 (-2) (by omega) (by omega)
end M54
