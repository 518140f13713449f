/-! LEXING OF THE REFERENCE: files -/
section M59
variable {F : MF} {X : Nat → List Int} {f m : Nat}
theorem s_216 {T : TT} {b : Bool} (hf : f < 3) (hm : m < 8) (hS : St F) (hX : TxM F X) (hT : TokM F f T) (hTl : T.length ≤ 24 * m) (h0 : ∀ i, i < (X (8 * f + m)).length → F 219 (24 * (8 * f + m) + i) = 0) :
    C_216 (f : Int) (m : Int) (bi b) F (ML_ f m F T (lexL 24 (X (8 * f + m)) 0 b T.length) 0 (X (8 * f + m)).length) m_no := by
  refine c_216 hS ⟨by omega, by omega, ?_⟩
  rw [show 8 * (f : Int) + (m : Int) = ((8 * f + m : Nat) : Int) by omega]
  exact l_216 hf hm rfl 24 0 b F T (by have := hX.le (r := 8 * f + m) (by omega); omega) (Nat.zero_le _) (Nat.le_refl _) hS hX hT (by omega) (fun i _ hi => h0 i hi)
def LexM (F : MF) (f : Nat) (X : Nat → List Int) : Prop := TokM F f (toks X f) ∧ F 213 (200 * f + (toks X f).length) = 24 ∧ (∀ i, i < 8 → F 218 (8 * f + i) = bi (md X f (i + 1))) ∧
  ∀ i c, i < 8 → c < (X (8 * f + i)).length → F 219 (24 * (8 * f + i) + c) = if gx (owns X f i) c = -2 then 1 else 0
theorem l_217c {x2 : Int} {R : MF → Prop} (hf : f < 3) (hm : m < 8) : ∀ (d i : Nat) (F : MF), i + d = 24 → St F →
    (∀ F2, St F2 → (∀ q, i ≤ q → q < 24 → F2 219 (24 * (8 * f + m) + q) = 0) → (∀ q, ¬ (24 * (8 * f + m) + i ≤ q ∧ q < 24 * (8 * f + m) + 24) → F2 219 q = F 219 q) → fr (fun c => c = 219) F F2 →
      C_216 (f : Int) (m : Int) x2 F2 (fun r6 F3 => (-2147483648 ≤ ((m : Int) + 1) ∧ ((m : Int) + 1) < 2147483648) ∧ L_217_11 (f : Int) r6 ((m : Int) + 1) F3 R m_no) m_no) →
    L_217_20 (f : Int) x2 (m : Int) (i : Int) F R m_no := by
  intro d
  induction d with
  | zero =>
    intro i F hi hS K
    exact b_217_20 hS ⟨fun h => by omega, fun _ => K F hS (fun q h1 h2 => by omega) (fun _ _ => rfl) fr.rf⟩
  | succ d ih =>
    intro i F hi hS K
    refine b_217_20 hS ⟨fun _ => ⟨by omega, by omega, by omega, by omega, by omega, by omega, ?_⟩, fun h => by omega⟩
    rw [show (24 * (8 * (f : Int) + (m : Int)) + (i : Int)).toNat = 24 * (8 * f + m) + i by omega, show (i : Int) + 1 = ((i + 1 : Nat) : Int) by omega]
    refine ih (i + 1) _ (by omega) (hS.arr kd_219 (by decide)) (fun F2 hS2 h1 h2 h3 => K F2 hS2 (fun q h4 h5 => ?_) (fun q h4 => ?_) ((fr.rf.up (by rfl)).tr h3))
    · by_cases e : q = i
      · rw [e, h2 _ (by omega), u_eq]
      · exact h1 q (by omega) h5
    · rw [h2 q (by omega), u_ne (Or.inr (by omega))]
theorem l_217 (hf : f < 3) (hok : ∀ r, r < 24 → Rok (X r)) : ∀ (d m : Nat) (F : MF), m + d = 8 → St F → TxM F X → TokM F f (lexTo X f m).1 → (∀ i, i < m → F 218 (8 * f + i) = bi (md X f (i + 1))) →
    (∀ i c, i < m → c < (X (8 * f + i)).length → F 219 (24 * (8 * f + i) + c) = if gx (owns X f i) c = -2 then 1 else 0) →
    L_217_11 (f : Int) (bi (md X f m)) (m : Int) F (fun F' => LexM F' f X ∧ Oth f F F') m_no := by
  intro d
  induction d with
  | zero =>
    intro m F hm hS hX hT hE hC
    obtain rfl : m = 8 := by omega
    have hl := toks_len hok hf
    refine b_217_11 hS ⟨fun h => by omega, fun _ => ?_⟩
    have e : (200 * (f : Int) + ((toks X f).length : Int)).toNat = 200 * f + (toks X f).length := by omega
    rw [Int.toNat_natCast, hT.1]
    show _ ∧ _ ∧ _ ∧ _ ∧ _
    have e2 : (lexTo X f 8).1 = toks X f := rfl
    rw [e2, e]
    refine ⟨by omega, by omega, by omega, by omega, ⟨⟨?_, ?_⟩, u_eq, fun i hi => ?_, fun i c hi hc => ?_⟩, ?_⟩
    · rw [up_row (by decide)]
      exact hT.1
    · intro k hk
      rw [up_row (a := 213) (c := 214) (by decide), up_row (a := 213) (c := 215) (by decide), up_row (a := 213) (c := 216) (by decide), u_ne (Or.inr (by omega))]
      exact hT.2 k hk
    · rw [up_row (by decide)]; exact hE i hi
    · rw [up_row (by decide)]; exact hC i c hi hc
    · exact ⟨fun q hq => ⟨u_ne (Or.inr (by omega)), by rw [up_row (by decide)], by rw [up_row (by decide)], by rw [up_row (by decide)]⟩, fun _ _ => by rw [up_row (by decide)], fun _ _ => by rw [up_row (by decide)], fun _ _ => by rw [up_row (by decide)], fun _ _ => by rw [up_row (by decide)], fr.rf.up (by omega)⟩
  | succ d ih =>
    intro m F hm hS hX hT hE hC
    have hlt := lexTo_len hok hf m (by omega)
    have hmd := md_lex hok hf m (by omega)
    have hle := (hok (8 * f + m) (by omega)).1
    refine b_217_11 hS ⟨fun _ => ?_, fun h => by omega⟩
    refine l_217c hf (by omega) 24 0 F rfl hS (fun F2 hS2 k1 k2 k3 => ?_)
    have hO2 : Oth f F F2 := ⟨fun _ _ => ⟨by rw [k3 _ (by omega)], by rw [k3 _ (by omega)], by rw [k3 _ (by omega)], by rw [k3 _ (by omega)]⟩, fun _ _ => by rw [k3 _ (by omega)], fun _ _ => by rw [k3 _ (by omega)], fun q hq => k2 q (by omega), fun _ _ => by rw [k3 _ (by omega)], k3.mo (fun c h => by omega)⟩
    refine CaI.on (s_216 (T := (lexTo X f m).1) hf (by omega) hS2 (hO2.tx hX) (hT.same (k3.mo (fun c h => Or.inr (Or.inr h)))) hlt (fun i hi => k1 i (Nat.zero_le _) (by omega))) ?_
    rintro x F3 hS3 ⟨hx, h2, h3, h4, h5, h6, h7⟩
    have hmode : (lexL 24 (X (8 * f + m)) 0 (md X f m) (lexTo X f m).1.length).2.2 = md X f (m + 1) := by
      rw [lexL_mode _ _ _ _ _ (by omega)]
      rfl
    rw [hmode] at hx h3
    subst hx
    have := ih (m + 1) F3 (by omega) hS3 (h7.tx (hO2.tx hX)) (by
        unfold lexTo
        rw [hmd]
        exact h2)
      (fun i hi => by
        by_cases e : i = m
        · rw [e]; exact h3
        · rw [h4 _ (by omega), k3 _ (by omega)]
          exact hE i (by omega))
      (fun i c hi hc => by
        have h8 := (hok (8 * f + i) (by omega)).1
        by_cases e : i = m
        · subst e
          have := h5 c (by omega)
          rw [show 24 * (8 * f + i) + 0 + c = 24 * (8 * f + i) + c by omega] at this
          rw [this]
          unfold owns
          rw [hmd]
        · rw [h6 _ (by omega), k2 _ (by omega)]
          exact hC i c (by omega) hc)
    rw [show ((m + 1 : Nat) : Int) = (m : Int) + 1 by omega] at this
    exact ⟨by omega, EvV.mono this (fun F' _ h => ⟨h.1, (hO2.tr h7).tr h.2⟩) (fun _ _ _ h => h)⟩
theorem s_217 (hf : f < 3) (hS : St F) (hX : TxM F X) : C_217 (f : Int) F (fun F' => LexM F' f X ∧ Oth f F F') m_no := by
  have hok : ∀ r, r < 24 → Rok (X r) := fun r hr => (hX r hr).2.1
  refine c_217 hS ⟨by omega, ?_⟩
  rw [Int.toNat_natCast]
  have hO : Oth f F (m_up F 217 f 0) := ⟨fun _ _ => ⟨by rw [up_row (by decide)], by rw [up_row (by decide)], by rw [up_row (by decide)], by rw [up_row (by decide)]⟩, fun q hq => u_ne (Or.inr hq), fun _ _ => by rw [up_row (by decide)], fun _ _ => by rw [up_row (by decide)], fun _ _ => by rw [up_row (by decide)], fr.rf.up (by omega)⟩
  have := l_217 hf hok 8 0 (m_up F 217 f 0) rfl (hS.arr kd_217 (by decide)) (hO.tx hX) ⟨u_eq, fun k hk => absurd hk (Nat.not_lt_zero k)⟩ (fun i hi => absurd hi (Nat.not_lt_zero i)) (fun i c hi => absurd hi (Nat.not_lt_zero i))
  exact EvV.mono this (fun F' _ h => ⟨h.1, hO.tr h.2⟩) (fun _ _ _ h => h)
/-- the tokens of a file stay, if others are laid -/
theorem LexM.oth {g : Nat} {F' : MF} (h : LexM F f X) (hf : f < 3) (hfg : f ≠ g) (hok : ∀ r, r < 24 → Rok (X r)) (hO : Oth g F F') : LexM F' f X := by
  obtain ⟨⟨h1, h2⟩, h3, h4, h5⟩ := h
  obtain ⟨o1, o2, o3, o4, -⟩ := hO
  have hl := toks_len hok hf
  refine ⟨⟨by rw [o2 f hfg]; exact h1, fun k hk => ?_⟩, ?_, fun i hi => ?_, fun i c hi hc => ?_⟩
  · obtain ⟨a, b, c, d⟩ := o1 (200 * f + k) (by omega)
    rw [a, b, c, d]
    exact h2 k hk
  · rw [(o1 (200 * f + (toks X f).length) (by omega)).1]; exact h3
  · rw [o3 _ (by omega)]; exact h4 i hi
  · have h8 := (hok (8 * f + i) (by omega)).1
    rw [o4 _ (by omega)]; exact h5 i c hi hc
/-- what the laying of tokens of all files leaves as it was -/
def LexP (F F' : MF) : Prop := (∀ q, q ≠ 23 → F' 201 q = F 201 q) ∧ fr (fun c => c = 201 ∨ (213 ≤ c ∧ c ≤ 219)) F F'
theorem l_218 (hok : ∀ r, r < 24 → Rok (X r)) : ∀ (d g : Nat) (F : MF), g + d = 3 → St F → TxM F X → (∀ f, f < g → LexM F f X) → L_218_2 (g : Int) F (fun F' => (∀ f, f < 3 → LexM F' f X) ∧ TxM F' X ∧ LexP F F') m_no := by
  intro d
  induction d with
  | zero =>
    intro g F hg hS hX h
    obtain rfl : g = 3 := by omega
    exact b_218_2 hS ⟨fun h => by omega, fun _ => ⟨h, hX, fun _ _ => rfl, fr.rf⟩⟩
  | succ d ih =>
    intro g F hg hS hX h
    refine b_218_2 hS ⟨fun _ => ?_, fun h => by omega⟩
    refine CaV.on (s_217 (by omega) hS hX) ?_
    rintro F1 hS1 ⟨h1, h2⟩
    have := ih (g + 1) F1 (by omega) hS1 (h2.tx hX) (fun f hf => by
      by_cases e : f = g
      · rw [e]; exact h1
      · exact (h f (by omega)).oth (by omega) e hok h2)
    rw [show ((g + 1 : Nat) : Int) = (g : Int) + 1 by omega] at this
    exact ⟨by omega, EvV.mono this (fun F' _ k => ⟨k.1, k.2.1, fun q hq => (k.2.2.1 q hq).trans (h2.2.2.2.2.1 q hq), h2.2.2.2.2.2.tr k.2.2.2⟩) (fun _ _ _ h => h)⟩
theorem s_218 (hS : St F) (hX : TxM F X) : C_218 F (fun F' => (∀ f, f < 3 → LexM F' f X) ∧ TxM F' X ∧ LexP F F') m_no :=
  c_218 hS (l_218 (fun r hr => (hX r hr).2.1) 3 0 F rfl hS hX (fun f hf => absurd hf (Nat.not_lt_zero f)))
end M59
