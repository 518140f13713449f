/-! REPAIR, OF THE CLASS: a cell of the table -/
def ixg (A i j : Nat) : Nat := (A * 11 + i) * 11 + j
def TTg (F : MF) (A i j : Nat) : Int := F 90 (ixg A i j)
def Sdg (T t : Nat → Nat → Nat → Int) (i j : Nat) : Prop := ∀ A, A < 32 → 0 ≤ T A i j ∧ T A i j ≤ 1000 ∧ (T A i j = 1000 ∨ Lg t UgC BgC 99 A i j (T A i j))
def RlP (T T' : Nat → Nat → Nat → Int) (i j : Nat) (p : Nat × Nat × Nat) : Prop := (p.2.2 = 99 → T' p.1 i j ≤ T p.2.1 i j) ∧ (p.2.2 ≠ 99 → ∀ k, i ≤ k → k ≤ j → T' p.1 i j ≤ T p.2.1 i k + T p.2.2 k j)
/-- within a round: what stands since it began -/
def PsI (t : Nat → Nat → Nat → Int) (F G : MF) (i j r : Nat) (x3 : Int) : Prop := (∀ c, c ≠ 90 → G c = F c) ∧ (∀ A a b, A < 32 → a ≤ 10 → b ≤ 10 → ¬ (a = i ∧ b = j) → TTg G A a b = TTg F A a b) ∧ (∀ A, A < 32 → TTg G A i j ≤ TTg F A i j) ∧ (∀ A, A < 13 → TTg G A i j = TTg F A i j) ∧ Sdg (TTg G) t i j ∧
  (∀ p ∈ RgL.take r, RlP (TTg F) (TTg G) i j p) ∧ (x3 = 0 ∧ G = F ∨ x3 = 1 ∧ sAg (TTg G) i j 32 + 1 ≤ sAg (TTg F) i j 32)
section Mh2
variable {F G F0 : MF} {t : Nat → Nat → Nat → Int} {A a b b2 i j k r : Nat} {x x3 x4 y : Int} {R : MF → Prop}
theorem TT_up (hi : i ≤ 10) (hj : j ≤ 10) {a' i' j' : Nat} (hi' : i' ≤ 10) (hj' : j' ≤ 10) : TTg (m_up F 90 (ixg A i j) x) a' i' j' = if a' = A ∧ i' = i ∧ j' = j then x else TTg F a' i' j' := by
  unfold TTg
  by_cases e : a' = A ∧ i' = i ∧ j' = j
  · obtain ⟨rfl, rfl, rfl⟩ := e
    rw [if_pos ⟨rfl, rfl, rfl⟩, u_eq]
  · rw [if_neg e, u_ne (Or.inr (fun h => e (by unfold ixg at h; omega)))]
theorem q_76 (hA : A < 32) (hi : i ≤ 10) (hj : j ≤ 10) : g_76 F (A : Int) (i : Int) (j : Int) = ((ixg A i j : Nat) : Int) ∧ o_76 F (A : Int) (i : Int) (j : Int) ∧ ixg A i j < 3872 := by
  unfold g_76 o_76 ixg
  refine ⟨by omega, ⟨by omega, by omega, by omega, by omega, trivial⟩, by omega⟩
theorem s_79u (hS : St F) (hb : b < 32) (hi : i ≤ 10) (hj : j ≤ 10) : C_79 (b : Int) (-1) (i : Int) (j : Int) F (fun r F' => F' = F ∧ r = TTg F b i j) m_no := by
  obtain ⟨e1, e2, e3⟩ := q_76 (F := F) hb hi hj
  refine c_79 hS ⟨fun _ => ?_, fun h => absurd rfl h⟩
  rw [e1, Int.toNat_natCast]
  exact ⟨e2, by omega, rfl, rfl⟩
theorem s_79b (hS : St F) (hb : b < 32) (hb2 : b2 < 32) (hij : i ≤ j) (hj : j ≤ 10) (hv : ∀ k, i ≤ k → k ≤ j → (0 ≤ TTg F b i k ∧ TTg F b i k ≤ 1000) ∧ 0 ≤ TTg F b2 k j ∧ TTg F b2 k j ≤ 1000) :
    C_79 (b : Int) (b2 : Int) (i : Int) (j : Int) F (fun r F' => F' = F ∧ r ≤ 1000 ∧ (∀ k, i ≤ k → k ≤ j → r ≤ TTg F b i k + TTg F b2 k j) ∧ (r = 1000 ∨ ∃ k, i ≤ k ∧ k ≤ j ∧ r = TTg F b i k + TTg F b2 k j)) m_no := by
  refine c_79 hS ⟨fun h => by omega, fun _ => ?_⟩
  have key : ∀ (d k : Nat) (x : Int), k + d = j + 1 → i ≤ k → x ≤ 1000 → (∀ m, i ≤ m → m < k → x ≤ TTg F b i m + TTg F b2 m j) → (x = 1000 ∨ ∃ m, i ≤ m ∧ m ≤ j ∧ x = TTg F b i m + TTg F b2 m j) → L_79_26 (b : Int) (b2 : Int) (i : Int) (j : Int) x (k : Int) F (fun r F' => F' = F ∧ r ≤ 1000 ∧ (∀ k, i ≤ k → k ≤ j → r ≤ TTg F b i k + TTg F b2 k j) ∧ (r = 1000 ∨ ∃ k, i ≤ k ∧ k ≤ j ∧ r = TTg F b i k + TTg F b2 k j)) m_no := by
    intro d
    induction d with
    | zero =>
      intro k x hk hik hx h1 h2
      exact b_79_26 hS ⟨fun _ => ⟨rfl, hx, fun m a b => h1 m a (by omega), h2⟩, fun h => absurd (by omega) h⟩
    | succ d ih =>
      intro k x hk hik hx h1 h2
      obtain ⟨e1, e2, e3⟩ := q_76 (F := F) hb (show i ≤ 10 by omega) (show k ≤ 10 by omega)
      obtain ⟨f1, f2, f3⟩ := q_76 (F := F) hb2 (show k ≤ 10 by omega) hj
      have v := hv k hik (by omega)
      have ea : F 90 (ixg b i k) = TTg F b i k := rfl
      have eb : F 90 (ixg b2 k j) = TTg F b2 k j := rfl
      refine b_79_26 hS ⟨fun h => by omega, fun _ => ?_⟩
      rw [e1, f1, Int.toNat_natCast, Int.toNat_natCast, ea, eb, show (k : Int) + 1 = ((k + 1 : Nat) : Int) by omega]
      refine ⟨e2, by omega, f2, by omega, by omega, by omega, ?_⟩
      unfold g_438
      by_cases c : TTg F b i k + TTg F b2 k j < x
      · rw [if_pos c]
        refine ih (k + 1) _ (by omega) (by omega) (by omega) (fun m h3 h4 => ?_) (Or.inr ⟨k, hik, by omega, rfl⟩)
        by_cases e : m = k
        · rw [e]; exact Int.le_refl _
        · have := h1 m h3 (by omega)
          omega
      · rw [if_neg c]
        refine ih (k + 1) x (by omega) (by omega) hx (fun m h3 h4 => ?_) h2
        by_cases e : m = k
        · rw [e]; omega
        · exact h1 m h3 (by omega)
  exact key (j + 1 - i) i 1000 (by omega) (Nat.le_refl _) (Int.le_refl _) (fun m h3 h4 => by omega) (Or.inl rfl)
/-- one rule -/
theorem PsI.st {p : Nat × Nat × Nat} (hij : i ≤ j) (hj : j ≤ 10) (hr : r < 30) (hp : p = RgL.getD r (0, 0, 0)) (h : PsI t F G i j r x3) (hq : RlP (TTg F) (fun _ _ _ => y) i j p) (hy : 0 ≤ y) (hy2 : y = 1000 ∨ Lg t UgC BgC 99 p.1 i j y) :
    (y < TTg G p.1 i j → PsI t F (m_up G 90 (ixg p.1 i j) y) i j (r + 1) 1) ∧ (¬ y < TTg G p.1 i j → PsI t F G i j (r + 1) x3) := by
  obtain ⟨h1, h2, h3, h4, h5, h6, h7⟩ := h
  have hl : RgL.length = 30 := rfl
  have hg : p = RgL[r]'(by omega) := by rw [hp, List.getD_eq_getElem?_getD, List.getElem?_eq_getElem (by omega)]; rfl
  have ht : ∀ q ∈ RgL.take (r + 1), q ∈ RgL.take r ∨ q = p := fun q hq => by
    rw [List.take_succ_eq_append_getElem (by omega)] at hq
    rcases List.mem_append.mp hq with h | h
    · exact Or.inl h
    · exact Or.inr ((List.mem_singleton.mp h).trans hg.symm)
  have hpm : p ∈ RgL := by rw [hg]; exact List.getElem_mem _
  have ok := RgL_ok p hpm
  have hq1 : p.2.2 = 99 → y ≤ TTg F p.2.1 i j := hq.1
  have hq2 : p.2.2 ≠ 99 → ∀ k, i ≤ k → k ≤ j → y ≤ TTg F p.2.1 i k + TTg F p.2.2 k j := hq.2
  refine ⟨fun c => ?_, fun c => ?_⟩
  · have up : ∀ A a b, a ≤ 10 → b ≤ 10 → TTg (m_up G 90 (ixg p.1 i j) y) A a b = if A = p.1 ∧ a = i ∧ b = j then y else TTg G A a b := fun A a b u v => TT_up (by omega) hj u v
    have upc : ∀ A, TTg (m_up G 90 (ixg p.1 i j) y) A i j = if A = p.1 then y else TTg G A i j := fun A => by
      rw [up A i j (by omega) hj]
      by_cases e : A = p.1
      · rw [if_pos ⟨e, rfl, rfl⟩, if_pos e]
      · rw [if_neg (fun h => e h.1), if_neg e]
    have le : ∀ A, TTg (m_up G 90 (ixg p.1 i j) y) A i j ≤ TTg G A i j := fun A => by
      rw [upc]
      split
      · next e => rw [e]; omega
      · exact Int.le_refl _
    refine ⟨fun c hc => by rw [up_row hc]; exact h1 c hc, fun A a b u v w z => by rw [up A a b v w, if_neg (fun h => z h.2)]; exact h2 A a b u v w z, fun A u => Int.le_trans (le A) (h3 A u), fun A u => by rw [upc, if_neg (by omega)]; exact h4 A u, fun A u => ?_, fun q hq => ?_, Or.inr ⟨rfl, ?_⟩⟩
    · rw [upc]
      split
      · next e =>
        have := (h5 p.1 ok.2.1).2.1
        rw [e]
        refine ⟨hy, by omega, hy2⟩
      · exact h5 A u
    · rcases ht q hq with m | rfl
      · have := h6 q m
        exact ⟨fun e => Int.le_trans (le _) (this.1 e), fun e k a b => Int.le_trans (le _) (this.2 e k a b)⟩
      · refine ⟨fun e => ?_, fun e k a b => ?_⟩
        · rw [upc, if_pos rfl]; exact hq1 e
        · rw [upc, if_pos rfl]; exact hq2 e k a b
    · have s1 := (sAg_up (T := TTg G) (T' := TTg (m_up G 90 (ixg p.1 i j) y)) (A := p.1) (i := i) (j := j) (by rw [upc, if_pos rfl]; omega) (fun a ha => by rw [upc, if_neg ha]) 32).1 ok.2.1
      rcases h7 with ⟨-, e⟩ | ⟨-, e⟩
      · rw [e] at s1 ⊢; exact s1
      · omega
  · refine ⟨h1, h2, h3, h4, h5, fun q hq => ?_, h7⟩
    rcases ht q hq with m | rfl
    · exact h6 q m
    · exact ⟨fun e => by have := hq1 e; omega, fun e k a b => by have := hq2 e k a b; omega⟩
/-- a round -/
theorem l_78p (hij : i ≤ j) (hj : j ≤ 10) (hs : ∀ a b, i ≤ a → a ≤ b → b ≤ j → ¬ (a = i ∧ b = j) → Sdg (TTg F) t a b) (K : ∀ G x3, St G → PsI t F G i j 30 x3 → (-2147483648 ≤ x4 + 1 ∧ x4 + 1 < 2147483648) ∧ L_78_5 (i : Int) (j : Int) x3 (x4 + 1) G R m_no) :
    ∀ (d r : Nat) (G : MF) (x3 : Int), r + d = 30 → St G → PsI t F G i j r x3 → L_78_22 (i : Int) (j : Int) x3 x4 ((3 * r : Nat) : Int) G R m_no := by
  intro d
  induction d with
  | zero =>
    intro r G x3 hr hS h
    obtain rfl : r = 30 := by omega
    exact b_78_22 hS ⟨by omega, fun h => absurd h (by omega), fun _ => K G x3 hS h⟩
  | succ d ih =>
    intro r G x3 hr hS h
    obtain ⟨p, hp⟩ : ∃ p, p = RgL.getD r (0, 0, 0) := ⟨_, rfl⟩
    have ct := RgL_ct r (by omega)
    rw [← hp] at ct
    have hl : RgL.length = 30 := rfl
    have hpm : p ∈ RgL := by
      rw [hp, List.getD_eq_getElem?_getD, List.getElem?_eq_getElem (by omega)]
      exact List.getElem_mem _
    have ok := RgL_ok p hpm
    have e1 : ((3 * r : Nat) : Int) + 1 = ((3 * r + 1 : Nat) : Int) := by omega
    have e2 : ((3 * r : Nat) : Int) + 2 = ((3 * r + 2 : Nat) : Int) := by omega
    have e3 : ((3 * r : Nat) : Int) + 3 = ((3 * (r + 1) : Nat) : Int) := by omega
    obtain ⟨g1, g2, g3⟩ := q_76 (F := G) ok.2.1 (show i ≤ 10 by omega) hj
    have hsG : ∀ a b, i ≤ a → a ≤ b → b ≤ j → Sdg (TTg G) t a b := fun a b u v w => by
      by_cases e : a = i ∧ b = j
      · rw [e.1, e.2]; exact h.2.2.2.2.1
      · intro A hA
        rw [h.2.1 A a b hA (by omega) (by omega) e]
        exact hs a b u v w e A hA
    have leF : ∀ A a b, A < 32 → i ≤ a → a ≤ b → b ≤ j → TTg G A a b ≤ TTg F A a b := fun A a b hA u v w => by
      by_cases e : a = i ∧ b = j
      · rw [e.1, e.2]; exact h.2.2.1 A hA
      · rw [h.2.1 A a b hA (by omega) (by omega) e]; exact Int.le_refl _
    have fin : ∀ y, RlP (TTg F) (fun _ _ _ => y) i j p → 0 ≤ y → (y = 1000 ∨ Lg t UgC BgC 99 p.1 i j y) → ∀ F3, F3 = G → (0 ≤ ((ixg p.1 i j : Nat) : Int) ∧ ((ixg p.1 i j : Nat) : Int) < 3872) ∧ ((y < F3 90 (((ixg p.1 i j : Nat) : Int)).toNat → (0 ≤ ((ixg p.1 i j : Nat) : Int) ∧ ((ixg p.1 i j : Nat) : Int) < 3872) ∧ (-2147483648 ≤ ((3 * r : Nat) : Int) + 3 ∧ ((3 * r : Nat) : Int) + 3 < 2147483648) ∧ L_78_22 (i : Int) (j : Int) 1 x4 (((3 * r : Nat) : Int) + 3) (m_up F3 90 (((ixg p.1 i j : Nat) : Int)).toNat y) R m_no) ∧
        (¬ (y < F3 90 (((ixg p.1 i j : Nat) : Int)).toNat) → (-2147483648 ≤ ((3 * r : Nat) : Int) + 3 ∧ ((3 * r : Nat) : Int) + 3 < 2147483648) ∧ L_78_22 (i : Int) (j : Int) x3 x4 (((3 * r : Nat) : Int) + 3) F3 R m_no)) := by
      rintro y q1 q2 q3 F3 rfl
      have ps := PsI.st hij hj (by omega) hp h q1 q2 q3
      rw [Int.toNat_natCast, e3]
      exact ⟨by omega, fun c => ⟨by omega, by omega, ih (r + 1) _ _ (by omega) (hS.arr kd_90 (by decide)) (ps.1 c)⟩, fun c => ⟨by omega, ih (r + 1) _ _ (by omega) hS (ps.2 c)⟩⟩
    refine b_78_22 hS ⟨by omega, fun _ => ?_, fun h => absurd (by omega) h⟩
    rw [e1, e2, Int.toNat_natCast, Int.toNat_natCast, Int.toNat_natCast, ct.1, ct.2.1, ct.2.2, g1]
    refine ⟨by omega, g2, by omega, by omega, by omega, by omega, ?_⟩
    rcases ok.2.2.2 with ⟨k1, k2⟩ | ⟨k1, k2⟩
    · rw [if_pos k1]
      refine CaI.on (s_79u hS ok.2.2.1 (by omega) hj) ?_
      rintro y F3 hS3 ⟨e, rfl⟩
      have sd := hsG i j (Nat.le_refl _) hij (Nat.le_refl _) p.2.1 ok.2.2.1
      refine fin _ ⟨fun _ => ?_, fun h => absurd k1 h⟩ sd.1 ?_ F3 e
      · exact leF _ _ _ ok.2.2.1 (Nat.le_refl _) hij (Nat.le_refl _)
      · rcases sd.2.2 with h | h
        · exact Or.inl h
        · exact Or.inr (Lg.un k2 h)
    · rw [if_neg (by omega)]
      have vl : ∀ k, i ≤ k → k ≤ j → (0 ≤ TTg G p.2.1 i k ∧ TTg G p.2.1 i k ≤ 1000) ∧ 0 ≤ TTg G p.2.2 k j ∧ TTg G p.2.2 k j ≤ 1000 := fun k u v => by
        have a1 := hsG i k (Nat.le_refl _) u v p.2.1 ok.2.2.1
        have a2 := hsG k j u v (Nat.le_refl _) p.2.2 k1
        exact ⟨⟨a1.1, a1.2.1⟩, a2.1, a2.2.1⟩
      refine CaI.on (s_79b hS ok.2.2.1 k1 hij hj vl) ?_
      rintro y F3 hS3 ⟨e, m1, m2, m3⟩
      have y0 : 0 ≤ y := by
        rcases m3 with m3 | ⟨k, u, v, m3⟩
        · omega
        · have := vl k u v; omega
      refine fin y ⟨fun h => by omega, fun _ k u v => ?_⟩ y0 ?_ F3 e
      · have a1 := m2 k u v
        have a2 := leF p.2.1 i k ok.2.2.1 (Nat.le_refl _) u v
        have a3 := leF p.2.2 k j k1 u v (Nat.le_refl _)
        show y ≤ _
        omega
      · rcases m3 with m3 | ⟨k, u, v, m3⟩
        · exact Or.inl m3
        · have a1 := hsG i k (Nat.le_refl _) u v p.2.1 ok.2.2.1
          have a2 := hsG k j u v (Nat.le_refl _) p.2.2 k1
          by_cases e1000 : y = 1000
          · exact Or.inl e1000
          · right
            have b1 := a1.2.2.resolve_left (by omega)
            have b2 := a2.2.2.resolve_left (by omega)
            exact Lg.bi (b := p.2.1) (b2 := p.2.2) k2 b1 b2 (by omega)
end Mh2
