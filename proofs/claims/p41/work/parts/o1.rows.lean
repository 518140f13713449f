/-! THE LAW'S OWN ROWS: read, written; whether a line ends in a comment -/
def dg (T : Nat → Int) (m k : Nat) : Int := dgt (T (3 * m + k / 8)) (k % 8)
def TR8 (T : Nat → Int) : Prop := ∀ i, i < 24 → 0 ≤ T i ∧ T i < 72057594037927936
/-- a file stands in a row of longs -/
def TPw (T : Nat → Int) (Y : Nat → List Int) : Prop := TR8 T ∧ ∀ m, m < 8 → (Y m).length ≤ 24 ∧ ∀ k, k < (Y m).length → dg T m k = gx (Y m) k
section Mo1
variable {n m k f : Nat} {F : MF} {Y : Nat → List Int} {X : Nat → List Int}
theorem q_201 (h : TR8 (F n)) (hm : m < 8) (hk : k < 24) : g_201 F n (m : Int) (k : Int) = dg (F n) m k := by
  unfold g_201 dg
  rw [show ((3 * (m : Int)) + ((k : Int) / 8)).toNat = 3 * m + k / 8 by omega, show (k : Int) % 8 = ((k % 8 : Nat) : Int) by omega]
  exact rd_201 (h _ (by omega))
theorem ob_201 (hm : m < 8) (hk : k < 24) : o_201 F n (m : Int) (k : Int) := by
  unfold o_201
  exact ⟨by omega, by omega, by omega, by omega, by omega, by omega, by omega, trivial⟩
theorem q_201y (h : TPw (F n) Y) (hm : m < 8) (hk : k < (Y m).length) : g_201 F n (m : Int) (k : Int) = gx (Y m) k := by
  have h1 := (h.2 m hm).1
  rw [q_201 h.1 hm (by omega)]
  exact (h.2 m hm).2 k hk
theorem s_202 {c : Int} (hk9 : m_KD[n]? = some (101, 24)) (hS : St F) (hm : m < 8) (hk : k < 24) : C_202 n (m : Int) (k : Int) c F (fun F' => F' = m_up F n (3 * m + k / 8) (sgv (F n (3 * m + k / 8)) c (k % 8))) m_no := by
  refine c_202 hk9 hS ⟨by omega, by omega, by omega, by omega, by omega, by omega, by omega, by omega, by omega, ?_⟩
  rw [show ((3 * (m : Int)) + ((k : Int) / 8)).toNat = 3 * m + k / 8 by omega, show (k : Int) % 8 = ((k % 8 : Nat) : Int) by omega]
  rfl
theorem dg_set {T : Nat → Int} {c : Int} {m2 k2 : Nat} (hT : TR8 T) (hc : 0 ≤ c ∧ c < 128) (hm : m < 8) (hk : k < 24) (hm2 : m2 < 8) (hk2 : k2 < 24) :
    dg (fun i => if i = 3 * m + k / 8 then sgv (T (3 * m + k / 8)) c (k % 8) else T i) m2 k2 = if m2 = m ∧ k2 = k then c else dg T m2 k2 := by
  unfold dg
  dsimp only
  by_cases e : 3 * m2 + k2 / 8 = 3 * m + k / 8
  · rw [if_pos e, dgt_sgv (hT _ (by omega)) hc (by omega) (by omega), e]
    by_cases e2 : k2 % 8 = k % 8
    · rw [if_pos e2, if_pos (by omega)]
    · rw [if_neg e2, if_neg (by omega)]
  · rw [if_neg e, if_neg (by omega)]
theorem tr_set {T : Nat → Int} {c : Int} (hT : TR8 T) (hc : 0 ≤ c ∧ c < 128) (hm : m < 8) (hk : k < 24) : TR8 (fun i => if i = 3 * m + k / 8 then sgv (T (3 * m + k / 8)) c (k % 8) else T i) := by
  intro i hi
  dsimp only
  split
  · exact sgv_rng (hT _ (by omega)) hc (by omega)
  · exact hT i hi
theorem m_upr {a i : Nat} {x : Int} : m_up F a i x a = fun j => if j = i then x else F a j := by
  funext j
  unfold m_up
  by_cases e : j = i
  · rw [if_pos ⟨rfl, e⟩, if_pos e]
  · rw [if_neg (fun h => e h.2), if_neg e]
theorem l_204 (hk9 : m_KD[n]? = some (101, 24)) (hS : St F) (hT : TPw (F n) Y) (hm : m < 8) : ∀ (q k : Nat) (b : Bool), (Y m).length ≤ k + q →
    L_204_6 n (m : Int) ((Y m).length : Int) (bi b) (k : Int) F (fun r F' => r = bi (modeL q (Y m) k b) ∧ F' = F) m_no := by
  have hl := (hT.2 m hm).1
  have stop : ∀ (q k : Nat) (b : Bool), (Y m).length ≤ k → L_204_6 n (m : Int) ((Y m).length : Int) (bi b) (k : Int) F (fun r F' => r = bi b ∧ F' = F) m_no := fun q k b h =>
    b_204_6 hk9 hS ⟨fun h2 => by omega, fun _ => ⟨bi01 b, rfl, rfl⟩⟩
  intro q
  induction q with
  | zero => intro k b h; exact stop 0 k b (by omega)
  | succ q ih =>
    intro k b h
    unfold modeL
    by_cases hk : (Y m).length ≤ k
    · rw [if_pos hk]
      exact stop 0 k b hk
    · rw [if_neg hk]
      have s0 : sgnl (Y m) (k : Int) = gx (Y m) k := sgn_in (by omega)
      have g0 : g_201 F n (m : Int) (k : Int) = gx (Y m) k := q_201y hT hm (by omega)
      have on1 : ∀ b : Bool, L_204_6 n (m : Int) ((Y m).length : Int) (bi b) ((k : Int) + 1) F (fun r F' => r = bi (modeL q (Y m) (k + 1) b) ∧ F' = F) m_no := fun b => by
        have := ih (k + 1) b (by omega)
        rwa [show (((k + 1 : Nat)) : Int) = (k : Int) + 1 by omega] at this
      have on2 : ∀ b : Bool, L_204_6 n (m : Int) ((Y m).length : Int) (bi b) ((k : Int) + 2) F (fun r F' => r = bi (modeL q (Y m) (k + 2) b) ∧ F' = F) m_no := fun b => by
        have := ih (k + 2) b (by omega)
        rwa [show (((k + 2 : Nat)) : Int) = (k : Int) + 2 by omega] at this
      have n89 : ∀ b : Bool, L_204_89 n (m : Int) ((Y m).length : Int) (bi b) (k : Int) F (fun r F' => r = bi (modeL q (Y m) (k + 1) b) ∧ F' = F) m_no := fun b => by
        cases b with
        | false => exact b_204_89 hk9 hS ⟨fun _ => ⟨by omega, on1 false⟩, fun h => absurd rfl h⟩
        | true => exact b_204_89 hk9 hS ⟨fun h => absurd h (by decide), fun _ => ⟨by omega, on1 true⟩⟩
      have n67 : ∀ b : Bool, L_204_67 n (m : Int) ((Y m).length : Int) (bi b) (k : Int) F (fun r F' => r = bi (modeL q (Y m) (k + 1) b) ∧ F' = F) m_no := fun b => by
        cases b with
        | false => exact b_204_67 hk9 hS ⟨fun _ => ⟨by omega, on1 false⟩, fun h => absurd rfl h⟩
        | true => exact b_204_67 hk9 hS ⟨fun h => absurd h (by decide), fun _ => ⟨by omega, on1 true⟩⟩
      cases b with
      | false =>
        have tt : turnsb (Y m) k false = decide (sgnl (Y m) (k : Int) = 47 ∧ sgnl (Y m) ((k : Int) + 1) = 42) := rfl
        by_cases h1 : k + 1 < (Y m).length
        · have s1 : sgnl (Y m) ((k : Int) + 1) = gx (Y m) (k + 1) := by
            have := sgn_in (l := Y m) (j := k + 1) h1
            rwa [show (((k + 1 : Nat)) : Int) = (k : Int) + 1 by omega] at this
          have g1 : g_201 F n (m : Int) ((k : Int) + 1) = gx (Y m) (k + 1) := by
            have := q_201y hT hm h1
            rwa [show (((k + 1 : Nat)) : Int) = (k : Int) + 1 by omega] at this
          have o1 : o_201 F n (m : Int) ((k : Int) + 1) := by
            have := ob_201 (F := F) (n := n) hm (show k + 1 < 24 by omega)
            rwa [show (((k + 1 : Nat)) : Int) = (k : Int) + 1 by omega] at this
          rw [s0, s1] at tt
          refine b_204_6 hk9 hS ⟨fun _ => ⟨ob_201 hm (by omega), by omega, ⟨fun _ => ⟨by omega, o1, ⟨fun _ => ?_, fun h => absurd rfl h⟩⟩, fun h => by omega⟩⟩, fun h => by omega⟩
          rw [g0, g1]
          refine ⟨fun c0 => ⟨fun c1 => ⟨fun h => absurd h (by decide), fun _ => ⟨by omega, ?_⟩⟩, fun c1 => ?_⟩, fun c0 => ?_⟩
          · rw [if_pos (by rw [tt]; exact decide_eq_true ⟨c0, c1⟩)]
            exact on2 true
          · rw [if_neg (by rw [tt, decide_eq_false (fun h => c1 h.2)]; decide)]
            exact n89 false
          · rw [if_neg (by rw [tt, decide_eq_false (fun h => c0 h.1)]; decide)]
            exact n89 false
        · have s1 : sgnl (Y m) ((k : Int) + 1) = 32 := by
            unfold sgnl
            exact if_neg (by omega)
          rw [s1] at tt
          have hn : ¬ turnsb (Y m) k false = true := by rw [tt, decide_eq_false (fun h => absurd h.2 (by decide))]; decide
          rw [if_neg hn]
          exact b_204_6 hk9 hS ⟨fun _ => ⟨ob_201 hm (by omega), by omega, ⟨fun h => by omega, fun _ => ⟨fun _ => ⟨fun _ => n89 false, fun _ => n89 false⟩, fun h => absurd rfl h⟩⟩⟩, fun h => by omega⟩
      | true =>
        have tt : turnsb (Y m) k true = decide (sgnl (Y m) (k : Int) = 42 ∧ sgnl (Y m) ((k : Int) + 1) = 47) := rfl
        by_cases h1 : k + 1 < (Y m).length
        · have s1 : sgnl (Y m) ((k : Int) + 1) = gx (Y m) (k + 1) := by
            have := sgn_in (l := Y m) (j := k + 1) h1
            rwa [show (((k + 1 : Nat)) : Int) = (k : Int) + 1 by omega] at this
          have g1 : g_201 F n (m : Int) ((k : Int) + 1) = gx (Y m) (k + 1) := by
            have := q_201y hT hm h1
            rwa [show (((k + 1 : Nat)) : Int) = (k : Int) + 1 by omega] at this
          have o1 : o_201 F n (m : Int) ((k : Int) + 1) := by
            have := ob_201 (F := F) (n := n) hm (show k + 1 < 24 by omega)
            rwa [show (((k + 1 : Nat)) : Int) = (k : Int) + 1 by omega] at this
          rw [s0, s1] at tt
          refine b_204_6 hk9 hS ⟨fun _ => ⟨ob_201 hm (by omega), by omega, ⟨fun _ => ⟨by omega, o1, ⟨fun h => absurd h (by decide), fun _ => ?_⟩⟩, fun h => by omega⟩⟩, fun h => by omega⟩
          rw [g0, g1]
          refine ⟨fun c0 => ⟨fun c1 => ⟨fun _ => ⟨by omega, ?_⟩, fun h => absurd rfl h⟩, fun c1 => ?_⟩, fun c0 => ?_⟩
          · rw [if_pos (by rw [tt]; exact decide_eq_true ⟨c0, c1⟩)]
            exact on2 false
          · rw [if_neg (by rw [tt, decide_eq_false (fun h => c1 h.2)]; decide)]
            exact n67 true
          · rw [if_neg (by rw [tt, decide_eq_false (fun h => c0 h.1)]; decide)]
            exact n67 true
        · have s1 : sgnl (Y m) ((k : Int) + 1) = 32 := by
            unfold sgnl
            exact if_neg (by omega)
          rw [s1] at tt
          have hn : ¬ turnsb (Y m) k true = true := by rw [tt, decide_eq_false (fun h => absurd h.2 (by decide))]; decide
          rw [if_neg hn]
          exact b_204_6 hk9 hS ⟨fun _ => ⟨ob_201 hm (by omega), by omega, ⟨fun h => by omega, fun _ => ⟨fun h => absurd h (by decide), fun _ => ⟨fun _ => n67 true, fun _ => n67 true⟩⟩⟩⟩, fun h => by omega⟩
theorem s_204 {b : Bool} (hk9 : m_KD[n]? = some (101, 24)) (hS : St F) (hT : TPw (F n) Y) (hm : m < 8) : C_204 n (m : Int) ((Y m).length : Int) (bi b) F (fun r F' => r = bi (modeL 24 (Y m) 0 b) ∧ F' = F) m_no := by
  have hl := (hT.2 m hm).1
  exact c_204 hk9 hS (l_204 hk9 hS hT hm 24 0 b (by omega))
end Mo1
