/-! A FILE IS GATHERED; MODES; BRACKETS; FOLDS -/
def modeL : Nat → List Int → Nat → Bool → Bool
  | 0, _, _, b => b
  | k + 1, l, j, b => if l.length ≤ j then b else if turnsb l j b = true then modeL k l (j + 2) (!b) else modeL k l (j + 1) b
theorem modeL_fuel : ∀ (k m : Nat) (l : List Int) (j : Nat) (b : Bool), l.length ≤ j + k → l.length ≤ j + m → modeL k l j b = modeL m l j b := by
  intro k
  induction k with
  | zero =>
    intro m l j b h1 h2
    cases m with
    | zero => rfl
    | succ m => unfold modeL; rw [if_pos (by omega)]
  | succ k ih =>
    intro m l j b h1 h2
    cases m with
    | zero => unfold modeL; rw [if_pos (by omega)]
    | succ m =>
      unfold modeL
      rw [ih m l (j + 2) (!b) (by omega) (by omega), ih m l (j + 1) b (by omega) (by omega)]
theorem spn_all (p : Int → Bool) : ∀ (l : List Int) (i : Nat), i < spn p l → p (gx l i) = true := by
  intro l
  induction l with
  | nil => intro i h; cases h
  | cons c t ih =>
    intro i h
    unfold spn at h
    split at h
    · next hc =>
      cases i with
      | zero => exact hc
      | succ i => exact ih i (by omega)
    · cases h
theorem span_tail {l : List Int} {j i : Nat} (h1 : 1 ≤ i) (h2 : i < span l j) : gx l (j + i) ≠ 47 := by
  unfold span at h2
  split at h2
  · split at h2
    · next h3 =>
      have h4 := sgn_ne (l := l) (j := (j : Int) + 1) (by rw [h3]; decide)
      have h5 := sgn_in (l := l) (j := j + 1) (by omega)
      rw [show ((j + 1 : Nat) : Int) = (j : Int) + 1 by omega, h3] at h5
      obtain rfl : i = 1 := by omega
      rw [← h5]
      decide
    · omega
  · split at h2
    · have := spn_all isL _ _ h2
      rw [gx_drop] at this
      unfold isL at this
      have := of_decide_eq_true this
      omega
    · split at h2
      · have := spn_all isD _ _ h2
        rw [gx_drop] at this
        unfold isD at this
        have := of_decide_eq_true this
        omega
      · omega
theorem modeL_skip : ∀ (s k : Nat) (l : List Int) (j : Nat), j + s ≤ l.length → (∀ i, i < s → gx l (j + i) ≠ 47) → modeL (k + s) l j false = modeL k l (j + s) false := by
  intro s
  induction s with
  | zero => intro k l j h1 h2; rfl
  | succ s ih =>
    intro k l j h1 h2
    have h3 := h2 0 (by omega)
    rw [show k + (s + 1) = (k + s) + 1 by omega]
    conv => lhs; unfold modeL
    have h4 : ¬ turnsb l j false = true := by
      unfold turnsb
      rw [if_neg (by decide), decide_eq_true_iff, sgn_in (by omega)]
      exact fun h => h3 h.1
    rw [if_neg (by omega), if_neg h4, ih k l (j + 1) (by omega) (fun i hi => by
      have := h2 (i + 1) (by omega)
      rwa [show j + (i + 1) = j + 1 + i by omega] at this), show j + 1 + s = j + (s + 1) by omega]
theorem lexL_mode : ∀ (k : Nat) (l : List Int) (j : Nat) (b : Bool) (c : Nat), l.length ≤ j + k → (lexL k l j b c).2.2 = modeL k l j b := by
  intro k
  induction k with
  | zero => intro l j b c h; rfl
  | succ k ih =>
    intro l j b c h
    unfold lexL
    conv => rhs; unfold modeL
    by_cases e : l.length ≤ j
    · rw [if_pos e, if_pos e]
    · rw [if_neg e, if_neg e]
      by_cases h1 : turnsb l j b = true
      · rw [if_pos h1, if_pos h1]
        exact ih _ _ _ _ (by omega)
      · rw [if_neg h1, if_neg h1]
        by_cases h2 : b = true
        · rw [if_pos h2]
          exact ih _ _ _ _ (by omega)
        · rw [if_neg h2]
          by_cases h3 : gx l j = 32
          · rw [if_pos h3]
            exact ih _ _ _ _ (by omega)
          · rw [if_neg h3]
            have hs := span_pos l j (by omega)
            have hs2 := span_le l j (by omega)
            have hb : b = false := by simpa using h2
            subst hb
            show (lexL k l (j + span l j) false (c + 1)).2.2 = _
            rw [ih _ _ _ _ (by omega), modeL_fuel k (k + (span l j - 1)) l (j + 1) false (by omega) (by omega),
              modeL_skip (span l j - 1) k l (j + 1) (by omega) (fun i hi => by
                have := span_tail (l := l) (j := j) (i := i + 1) (by omega) (by omega)
                rwa [show j + (i + 1) = j + 1 + i by omega] at this), show j + 1 + (span l j - 1) = j + span l j by omega]
/-- the mode in which a line begins -/
def md (X : Nat → List Int) (f : Nat) : Nat → Bool
  | 0 => false
  | m + 1 => modeL 24 (X (8 * f + m)) 0 (md X f m)
theorem md_lex {X : Nat → List Int} {f : Nat} (hX : ∀ r, r < 24 → Rok (X r)) (hf : f < 3) : ∀ m, m ≤ 8 → (lexTo X f m).2 = md X f m := by
  intro m
  induction m with
  | zero => intro _; rfl
  | succ m ih =>
    intro hm
    show (lexL 24 (X (8 * f + m)) 0 (lexTo X f m).2 (lexTo X f m).1.length).2.2 = modeL 24 (X (8 * f + m)) 0 (md X f m)
    have := (hX (8 * f + m) (by omega)).1
    rw [lexL_mode _ _ _ _ _ (by omega), ih (by omega)]
theorem md_same {X Y : Nat → List Int} {f : Nat} : ∀ m, (∀ i, i < m → X (8 * f + i) = Y (8 * f + i)) → md X f m = md Y f m := by
  intro m
  induction m with
  | zero => intro _; rfl
  | succ m ih =>
    intro h
    unfold md
    rw [ih (fun i hi => h i (by omega)), h m (by omega)]
/-- brackets: how many are open, which, and partners, behind some tokens -/
def brk (T : TT) : Nat → Nat × (Nat → Nat) × (Nat → Int)
  | 0 => (0, fun _ => 0, fun _ => -1)
  | k + 1 =>
    if (tk T k).1 = 10 ∨ (tk T k).1 = 12 then ((brk T k).1 + 1, (fun i => if i = (brk T k).1 then k else (brk T k).2.1 i), (brk T k).2.2)
    else if ((tk T k).1 = 11 ∨ (tk T k).1 = 13) ∧ 0 < (brk T k).1 ∧ (tk T ((brk T k).2.1 ((brk T k).1 - 1))).1 = (tk T k).1 - 1 then
      ((brk T k).1 - 1, (brk T k).2.1, fun i => if i = (brk T k).2.1 ((brk T k).1 - 1) then (k : Int) else if i = k then (((brk T k).2.1 ((brk T k).1 - 1) : Nat) : Int) else (brk T k).2.2 i)
    else brk T k
theorem brk_le (T : TT) : ∀ k, (brk T k).1 ≤ k ∧ ∀ i, i < (brk T k).1 → (brk T k).2.1 i < k := by
  intro k
  induction k with
  | zero => exact ⟨Nat.le_refl _, fun i h => absurd h (Nat.not_lt_zero i)⟩
  | succ k ih =>
    unfold brk
    split
    · refine ⟨by show _ + 1 ≤ k + 1; omega, fun i h => ?_⟩
      show (if i = (brk T k).1 then k else (brk T k).2.1 i) < k + 1
      split
      · omega
      · next h2 =>
        have := ih.2 i (by have h3 : i < (brk T k).1 + 1 := h; omega)
        omega
    · split
      · refine ⟨by show _ - 1 ≤ k + 1; omega, fun i h => ?_⟩
        have := ih.2 i (by have h3 : i < (brk T k).1 - 1 := h; omega)
        show (brk T k).2.1 i < k + 1
        omega
      · exact ⟨by omega, fun i h => by have := ih.2 i h; omega⟩
def parts (T : TT) : Nat → Int := (brk T T.length).2.2
section M55
variable {n n1 f : Nat} {X : Nat → List Int} {T : TT}
theorem l_117 (hn : n ∈ m_I8) (hl : T.length ≤ 192) : ∀ (d k : Nat) (F : MF), k + d = T.length → St F → TokC F n T → (∀ i, i < T.length → F (n + 5) i = (brk T k).2.2 i) → (∀ i, i < (brk T k).1 → F (n + 6) i = ((brk T k).2.1 i : Int)) →
    L_117_4 n ((brk T k).1 : Int) (k : Int) F (fun F' => (∀ i, i < T.length → F' (n + 5) i = parts T i) ∧ fr (fun c => c = n + 5 ∨ c = n + 6) F F') m_no := by
  intro d
  induction d with
  | zero =>
    intro k F hk hS hT hP hO
    refine b_117_4 hn hS ⟨fun h => ?_, fun _ => ⟨?_, fr.rf⟩⟩
    · rw [hT.1] at h
      omega
    · obtain rfl : k = T.length := by omega
      exact hP
  | succ d ih =>
    intro k F hk hS hT hP hO
    obtain ⟨hb1, hb2⟩ := brk_le T k
    have hkd := (hT.2 k (by omega)).1
    rw [Nat.zero_add] at hkd
    -- a token that changes nothing
    have skip : brk T (k + 1) = brk T k → L_117_4 n ((brk T k).1 : Int) ((k : Int) + 1) F (fun F' => (∀ i, i < T.length → F' (n + 5) i = parts T i) ∧ fr (fun c => c = n + 5 ∨ c = n + 6) F F') m_no := fun e => by
      have := ih (k + 1) F (by omega) hS hT (by rw [e]; exact hP) (by rw [e]; exact hO)
      rw [e] at this
      exact this
    have opn : ((tk T k).1 = 10 ∨ (tk T k).1 = 12) → L_117_4 n (((brk T k).1 : Int) + 1) ((k : Int) + 1) (m_up F (n + 6) ((brk T k).1 : Int).toNat (k : Int)) (fun F' => (∀ i, i < T.length → F' (n + 5) i = parts T i) ∧ fr (fun c => c = n + 5 ∨ c = n + 6) F F') m_no := fun h => by
      have e : brk T (k + 1) = ((brk T k).1 + 1, (fun i => if i = (brk T k).1 then k else (brk T k).2.1 i), (brk T k).2.2) := by
        conv => lhs; unfold brk
        rw [if_pos h]
      rw [Int.toNat_natCast]
      have := ih (k + 1) (m_up F (n + 6) (brk T k).1 (k : Int)) (by omega) (hS.arr (ka_8_5 hn) (by decide)) (hT.fr (P := fun c => c = n + 6) (fr.rf.up (by rfl)) (fun c h1 h2 => by omega))
        (by rw [e]; intro i hi; rw [u_ne (Or.inl (by omega))]; exact hP i hi)
        (by
          rw [e]
          intro i hi
          show m_up F (n + 6) (brk T k).1 (k : Int) (n + 6) i = ((if i = (brk T k).1 then k else (brk T k).2.1 i : Nat) : Int)
          by_cases e2 : i = (brk T k).1
          · rw [if_pos e2, e2, u_eq]
          · rw [if_neg e2, u_ne (Or.inr e2)]
            exact hO i (by have h3 : i < (brk T k).1 + 1 := hi; omega))
      rw [e] at this
      exact EvV.mono this (fun F' _ h2 => ⟨h2.1, (fr.rf.up (Or.inr rfl)).tr h2.2⟩) (fun _ _ _ h => h)
    have clsw : ((tk T k).1 = 11 ∨ (tk T k).1 = 13) → L_117_56 n ((brk T k).1 : Int) (k : Int) (tk T k).1 F (fun F' => (∀ i, i < T.length → F' (n + 5) i = parts T i) ∧ fr (fun c => c = n + 5 ∨ c = n + 6) F F') m_no := fun h => by
      have hno : ¬ ((tk T k).1 = 10 ∨ (tk T k).1 = 12) := by omega
      refine b_117_56 hn hS ⟨fun h1 => ?_, fun h1 => ?_⟩
      · have h2 := hO ((brk T k).1 - 1) (by omega)
        have h3 := hb2 ((brk T k).1 - 1) (by omega)
        have e1 : (((brk T k).1 : Int) - 1).toNat = (brk T k).1 - 1 := by omega
        have e2 : (((brk T k).1 : Int) + (-1)).toNat = (brk T k).1 - 1 := by omega
        have h4 := (hT.2 ((brk T k).2.1 ((brk T k).1 - 1)) (by omega)).1
        rw [Nat.zero_add] at h4
        rw [e1, e2, h2, Int.toNat_natCast, h4, Int.toNat_natCast]
        refine ⟨by omega, by omega, by omega, by omega, ⟨fun h5 => ⟨by omega, by omega, by omega, by omega, by omega, by omega, ?_⟩, fun h5 => ⟨by omega, skip ?_⟩⟩⟩
        · have e : brk T (k + 1) = ((brk T k).1 - 1, (brk T k).2.1, fun i => if i = (brk T k).2.1 ((brk T k).1 - 1) then (k : Int) else if i = k then (((brk T k).2.1 ((brk T k).1 - 1) : Nat) : Int) else (brk T k).2.2 i) := by
            conv => lhs; unfold brk
            rw [if_neg hno, if_pos ⟨h, by omega, h5⟩]
          have hSx := ((hS.arr (i := k) (v := (((brk T k).2.1 ((brk T k).1 - 1) : Nat) : Int)) (ka_8_4 hn) (by decide)).arr (i := (brk T k).2.1 ((brk T k).1 - 1)) (v := (k : Int)) (ka_8_4 hn) (by decide))
          have := ih (k + 1) _ (by omega) hSx (hT.fr (P := fun c => c = n + 5) ((fr.rf.up (by rfl)).up rfl) (fun c h1 h2 => by omega))
            (by
              rw [e]
              intro i hi
              show _ = if i = (brk T k).2.1 ((brk T k).1 - 1) then (k : Int) else if i = k then (((brk T k).2.1 ((brk T k).1 - 1) : Nat) : Int) else (brk T k).2.2 i
              by_cases e3 : i = (brk T k).2.1 ((brk T k).1 - 1)
              · rw [if_pos e3, e3, u_eq]
              · rw [if_neg e3, u_ne (Or.inr e3)]
                by_cases e4 : i = k
                · rw [if_pos e4, e4, u_eq]
                · rw [if_neg e4, u_ne (Or.inr e4)]
                  exact hP i hi)
            (by
              rw [e]
              intro i hi
              rw [u_ne (Or.inl (by omega)), u_ne (Or.inl (by omega))]
              exact hO i (by have h3 : i < (brk T k).1 - 1 := hi; omega))
          rw [e] at this
          rw [show ((brk T k).1 : Int) + (-1) = (((brk T k).1 - 1 : Nat) : Int) by omega]
          exact EvV.mono this (fun F' _ h2 => ⟨h2.1, ((fr.rf.up (Or.inl rfl)).up (Or.inl rfl)).tr h2.2⟩) (fun _ _ _ h => h)
        · conv => lhs; unfold brk
          rw [if_neg hno, if_neg (fun h6 => h5 h6.2.2)]
      · refine ⟨by omega, skip ?_⟩
        conv => lhs; unfold brk
        rw [if_neg hno, if_neg (fun h6 => h1 (by omega))]
    refine b_117_4 hn hS ⟨fun _ => ⟨by omega, ?_⟩, fun h => ?_⟩
    · rw [Int.toNat_natCast, hkd]
      refine ⟨fun h1 => ⟨by omega, by omega, by omega, opn (Or.inl h1)⟩, fun h1 => ⟨fun h2 => ⟨by omega, by omega, by omega, opn (Or.inr h2)⟩, fun h2 => ⟨fun h3 => clsw (Or.inl h3), fun h3 => ⟨fun h4 => clsw (Or.inr h4), fun h4 => ⟨by omega, skip ?_⟩⟩⟩⟩⟩
      conv => lhs; unfold brk
      rw [if_neg (by omega), if_neg (fun h6 => by omega)]
    · rw [hT.1] at h
      omega
theorem s_117 {F : MF} (hn : n ∈ m_I8) (hS : St F) (hT : TokC F n T) (hl : T.length ≤ 192) (hP : PN F n T.length) :
    C_117 n F (fun F' => (∀ i, i < T.length → F' (n + 5) i = parts T i) ∧ fr (fun c => c = n + 5 ∨ c = n + 6) F F') m_no :=
  c_117 hn hS (l_117 hn hl T.length 0 F (by omega) hS hT (fun i hi => hP i hi) (fun i hi => absurd hi (Nat.not_lt_zero i)))
/-- what is gathered of a file -/
def GaC (F : MF) (n f : Nat) (X : Nat → List Int) : Prop := TokC F n (toks X f) ∧ (∀ i, i < (toks X f).length → F (n + 5) i = parts (toks X f) i) ∧
  (∀ i, i < 8 → F (n + 8) i = bi (md X f (i + 1))) ∧ ∀ i c, i < 8 → c < (X (8 * f + i)).length → F (n + 7) (24 * i + c) = gx (owns X f i) c
theorem s_113 {F : MF} {m r : Nat} {b : Bool} (hn : n ∈ m_I8) (hn1 : n1 ∈ m_I2) (hS : St F) (hr : r < 24) (hm : m < 8) (hL : LinC F n1 X) (hT : TokC F n T) (hP : PN F n T.length) (hTl : T.length ≤ 24 * m) :
    C_113 n n1 (r : Int) (m : Int) (bi b) F (GL n m F T (lexL 24 (X r) 0 b T.length) 0 (X r).length) m_no := by
  refine c_113 hn hn1 hS ?_
  rw [q_21 hL hr]
  exact l_113 hn hn1 hr hm 24 0 b F T (Nat.le_refl _) (by have := hL.le hr; omega) (Nat.zero_le _) hS hL hT hP (by omega)
theorem l_112 (hn : n ∈ m_I8) (hn1 : n1 ∈ m_I2) (hf : f < 3) : ∀ (d m : Nat) (F : MF), m + d = 8 → St F → LinC F n1 X → TokC F n (lexTo X f m).1 → PN F n (lexTo X f m).1.length →
    (∀ i, i < m → F (n + 8) i = bi (md X f (i + 1))) → (∀ i c, i < m → c < (X (8 * f + i)).length → F (n + 7) (24 * i + c) = gx (owns X f i) c) →
    L_112_10 n n1 (f : Int) (bi (md X f m)) (m : Int) F (fun F' => GaC F' n f X ∧ fr (fun c => n ≤ c ∧ c ≤ n + 8) F F') m_no := by
  intro d
  induction d with
  | zero =>
    intro m F hm hS hL hT hP hE hO
    obtain rfl : m = 8 := by omega
    have hok : ∀ r, r < 24 → Rok (X r) := fun r hr => (hL r hr).2.1
    refine b_112_10 hn hn1 hS ⟨fun h => by omega, fun _ => ?_⟩
    refine CaV.on (s_117 hn hS hT (toks_len hok hf) hP) ?_
    rintro F' hS' ⟨h1, h2⟩
    refine ⟨⟨hT.fr h2 (fun c h3 h4 => by omega), h1, fun i hi => ?_, fun i c hi hc => ?_⟩, h2.mo (fun c h => by omega)⟩
    · rw [h2 _ (by omega)]; exact hE i hi
    · rw [h2 _ (by omega)]; exact hO i c hi hc
  | succ d ih =>
    intro m F hm hS hL hT hP hE hO
    have hap := i2_i8 hn hn1
    have hok : ∀ r, r < 24 → Rok (X r) := fun r hr => (hL r hr).2.1
    have hlt := lexTo_len hok hf m (by omega)
    refine b_112_10 hn hn1 hS ⟨fun _ => ⟨by omega, by omega, ?_⟩, fun h => by omega⟩
    have e : (f : Int) * 8 + (m : Int) = ((8 * f + m : Nat) : Int) := by omega
    rw [e]
    refine CaI.on (s_113 hn hn1 hS (by omega) (by omega) hL hT hP hlt) ?_
    rintro x F1 hS1 ⟨hx, h2, h3, h4, h5, h6⟩
    have hle := (hok (8 * f + m) (by omega)).1
    have hmd := md_lex hok hf m (by omega)
    have hx2 : x = bi (md X f (m + 1)) := by
      rw [hx, lexL_mode _ _ _ _ _ (by omega)]
      rfl
    have hfr : fr (fun c => n ≤ c ∧ c ≤ n + 8) F (m_up F1 (n + 8) m x) := (h6.mo (fun c h => by unfold GP at h; omega)).up (by omega)
    refine ⟨by omega, by rw [hx2]; exact bi01 _, by omega, ?_⟩
    rw [Int.toNat_natCast]
    have hT2 : TokC F1 n (lexTo X f (m + 1)).1 := by
      unfold lexTo
      rw [hmd]
      exact h2
    have hT3 : TokC (m_up F1 (n + 8) m x) n (lexTo X f (m + 1)).1 := hT2.fr (P := fun c => c = n + 8) (fr.rf.up (by rfl)) (fun c h3 h4 => by omega)
    have := ih (m + 1) (m_up F1 (n + 8) m x) (by omega) (hS1.arr (ka_8_7 hn) (by decide))
      (hL.fr hfr (fun e => hap (n1 + 1) (by omega) (by omega) (by omega)) (fun e => hap (n1 + 2) (by omega) (by omega) (by omega))) hT3
      (fun i hi => by
        rw [u_ne (Or.inl (by omega))]
        refine h3 i ?_
        unfold lexTo at hi
        rw [List.length_append, List.length_map, hmd] at hi
        exact hi)
      (fun i hi => by
        by_cases e2 : i = m
        · rw [e2, u_eq, hx2]
        · rw [u_ne (Or.inr e2), h6 _ (by unfold GP; omega)]
          exact hE i (by omega))
      (fun i c hi hc => by
        rw [u_ne (Or.inl (by omega))]
        have h7 := (hok (8 * f + i) (by omega)).1
        by_cases e2 : i = m
        · subst e2
          have := h4 c (by omega)
          rw [show 24 * i + 0 + c = 24 * i + c by omega] at this
          rw [this]
          unfold owns
          rw [hmd]
        · rw [h5 _ (by omega)]
          exact hO i c (by omega) hc)
    rw [hx2] at this ⊢
    rw [show ((m + 1 : Nat) : Int) = (m : Int) + 1 by omega] at this
    refine EvV.mono this (fun F' _ h => ⟨h.1, ?_⟩) (fun _ _ _ h => h)
    rw [hx2] at hfr
    exact hfr.tr h.2
theorem s_112 {F : MF} (hn : n ∈ m_I8) (hn1 : n1 ∈ m_I2) (hf : f < 3) (hS : St F) (hL : LinC F n1 X) :
    C_112 n n1 (f : Int) F (fun F' => GaC F' n f X ∧ fr (fun c => n ≤ c ∧ c ≤ n + 8) F F') m_no := by
  have hap := i2_i8 hn hn1
  refine c_112 hn hn1 hS ?_
  have hfr : fr (fun c => n ≤ c ∧ c ≤ n + 8) F (m_up F n 8 0) := fr.rf.up (by omega)
  have := l_112 (X := X) hn hn1 hf 8 0 (m_up F n 8 0) (by omega) (hS.fld (ok_8 hn) rk_8_8) (hL.fr hfr (fun e => hap (n1 + 1) (by omega) (by omega) (by omega)) (fun e => hap (n1 + 2) (by omega) (by omega) (by omega)))
    ⟨by rw [u_eq]; rfl, fun k hk => absurd hk (Nat.not_lt_zero k)⟩ (fun i hi => absurd hi (Nat.not_lt_zero i)) (fun i hi => absurd hi (Nat.not_lt_zero i)) (fun i c hi => absurd hi (Nat.not_lt_zero i))
  exact EvV.mono this (fun F' _ h => ⟨h.1, hfr.tr h.2⟩) (fun _ _ _ h => h)
end M55
