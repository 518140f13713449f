/-! REPAIR, OF THE REFERENCE: where the table begins -/
def Bzg (t : Nat → Nat → Nat → Int) (n : Nat) (F0 G : MF) : Prop := ((∀ c, c ≠ 201 → c ≠ 262 → G c = F0 c) ∧ ∀ q, q ≠ 92 → G 201 q = F0 201 q) ∧ (∀ q, q < 3751 → 0 ≤ G 262 q ∧ G 262 q ≤ 1000) ∧ (∀ a i j, a < 31 → i ≤ j → j ≤ n → UUg G a i j = 1000 ∨ Lg t UgF BgF 19 a i j (UUg G a i j))
section Mh6
variable {F G G0 F0 : MF} {t : Nat → Nat → Nat → Int} {A b b2 i j k n q : Nat} {x v : Int} {R : MF → Prop} {K : Nat → Int}
theorem Bzg.put (hA : A < 31) (hij : i ≤ j) (hj : j ≤ n) (hn : n ≤ 10) (h : Bzg t n F0 G) (hv : 0 ≤ v) (hl : v < 1000 → Lg t UgF BgF 19 A i j v) :
    Bzg t n F0 (putG G A i j v) ∧ UUg (putG G A i j v) A i j ≤ v ∧ ∀ a i' j', i' ≤ 10 → j' ≤ 10 → UUg (putG G A i j v) a i' j' ≤ UUg G a i' j' := by
  obtain ⟨⟨h1, h1a⟩, h4, h5⟩ := h
  have l := ixg_lt hA (show i ≤ 10 by omega) (show j ≤ 10 by omega)
  have c0 := h4 _ l
  change 0 ≤ UUg G A i j ∧ UUg G A i j ≤ 1000 at c0
  obtain ⟨w, hw⟩ : ∃ w, w = if v < UUg G A i j then v else UUg G A i j := ⟨_, rfl⟩
  have w1 : w ≤ v ∧ w ≤ UUg G A i j ∧ 0 ≤ w := by rw [hw]; split <;> omega
  have up : ∀ a i' j', i' ≤ 10 → j' ≤ 10 → UUg (putG G A i j v) a i' j' = if a = A ∧ i' = i ∧ j' = j then w else UUg G a i' j' := fun a i' j' u z => by
    unfold putG
    rw [← hw, UU_up (by omega) (by omega) u z]
    rfl
  have row : ∀ q, putG G A i j v 262 q = if q = ixg A i j then w else G 262 q := fun q => by
    unfold putG
    rw [← hw]
    by_cases e : q = ixg A i j
    · rw [if_pos e, e, u_eq]
    · rw [if_neg e, u_ne (Or.inr e), up_row (by decide)]
  refine ⟨⟨⟨fun c x y => ?_, fun q hq => ?_⟩, fun q hq => ?_, fun a i' j' ha u z => ?_⟩, ?_, fun a i' j' u z => ?_⟩
  · unfold putG
    rw [up_row y, up_row x]; exact h1 c x y
  · unfold putG
    rw [up_row (by decide), u_ne (Or.inr hq)]; exact h1a q hq
  · rw [row]
    split
    · omega
    · exact h4 q hq
  · rw [up a i' j' (by omega) (by omega)]
    split
    · next e =>
      rw [e.1, e.2.1, e.2.2]
      by_cases c : v < UUg G A i j
      · rw [if_pos c] at hw
        rw [hw]
        exact Or.inr (hl (by omega))
      · rw [if_neg c] at hw
        rw [hw]
        exact h5 A i j hA hij hj
    · exact h5 a i' j' ha u z
  · rw [up A i j (by omega) (by omega), if_pos ⟨rfl, rfl, rfl⟩]; exact w1.1
  · rw [up a i' j' u z]
    split
    · next e => rw [e.1, e.2.1, e.2.2]; exact w1.2.1
    · exact Int.le_refl _
theorem clF_p (hA : A < 13) : p_294 F (A : Int) x ↔ clF A x = true := by
  have h : A = 0 ∨ A = 1 ∨ A = 2 ∨ A = 3 ∨ A = 4 ∨ A = 5 ∨ A = 6 ∨ A = 7 ∨ A = 8 ∨ A = 9 ∨ A = 10 ∨ A = 11 ∨ A = 12 := by omega
  rcases h with rfl | rfl | rfl | rfl | rfl | rfl | rfl | rfl | rfl | rfl | rfl | rfl | rfl
  all_goals
    unfold p_294 clF
    simp
/-- what stands when the table begins -/
def In5 (K : Nat → Int) (n : Nat) (F0 G : MF) : Prop := Bzg (tcs K) n F0 G ∧ (∀ A i j, A < 13 → i ≤ j → j ≤ n → UUg G A i j ≤ tcs K A i j) ∧ ∀ i j, i ≤ j → j ≤ n → UUg G 19 i j ≤ (j : Int) - (i : Int)
theorem s_295 (hS : St F0) (hn : n ≤ 10) (h91 : F0 201 91 = (n : Int)) (hK : ∀ q, q < n → F0 263 q = K q) : C_295 F0 (fun G => In5 K n F0 G) m_no := by
  have e91 : ∀ G, Bzg (tcs K) n F0 G → G 201 91 = (n : Int) := fun G h => (h.1.2 91 (by decide)).trans h91
  have l26 : ∀ (d i : Nat) (G : MF), i + d = n + 1 → St G → Bzg (tcs K) n F0 G → (∀ A i' j, A < 13 → i' ≤ j → j ≤ n → i' < i → UUg G A i' j ≤ tcs K A i' j) → (∀ i' j, i' ≤ j → j ≤ n → i' < i → UUg G 19 i' j ≤ (j : Int) - (i' : Int)) → L_295_26 (i : Int) G (fun G => In5 K n F0 G) m_no := by
    intro d
    induction d with
    | zero =>
      intro i G hi hSG hR h1 h2
      refine b_295_26 hSG ⟨fun _ => ⟨hR, fun A i' j a u z => h1 A i' j a u z (by omega), fun i' j u z => h2 i' j u z (by omega)⟩, fun h => ?_⟩
      rw [e91 G hR] at h
      omega
    | succ d ih =>
      intro i G hi hSG hR h1 h2
      have l124 : ∀ (d2 j : Nat) (G : MF), j + d2 = n + 1 → i ≤ j → St G → Bzg (tcs K) n F0 G → (∀ A i' j, A < 13 → i' ≤ j → j ≤ n → i' < i + 1 → UUg G A i' j ≤ tcs K A i' j) → (∀ i' j', i' ≤ j' → j' ≤ n → (i' < i ∨ i' = i ∧ j' < j) → UUg G 19 i' j' ≤ (j' : Int) - (i' : Int)) → L_295_124 (i : Int) (j : Int) G (fun G => In5 K n F0 G) m_no := by
        intro d2
        induction d2 with
        | zero =>
          intro j G hj hij hSG hR h1 h2
          refine b_295_124 hSG ⟨fun _ => ⟨by omega, ?_⟩, fun h => ?_⟩
          · rw [show (i : Int) + 1 = ((i + 1 : Nat) : Int) by omega]
            exact ih (i + 1) G (by omega) hSG hR h1 (fun i' j' u z y => h2 i' j' u z (by omega))
          · rw [e91 G hR] at h
            omega
        | succ d2 ih2 =>
          intro j G hj hij hSG hR h1 h2
          refine b_295_124 hSG ⟨fun h => ?_, fun _ => ⟨by omega, CaV.on (s_293 (A := 19) (v := (j : Int) - (i : Int)) (by decide) (show i ≤ 10 by omega) (show j ≤ 10 by omega) hSG) ?_⟩⟩
          · rw [e91 G hR] at h
            omega
          · rintro G' hS' rfl
            obtain ⟨p1, p2, p3⟩ := hR.put (A := 19) (v := (j : Int) - (i : Int)) (by decide) hij (show j ≤ n by omega) hn (by omega) (fun _ => Lg.ep hij (Int.le_refl _))
            rw [show (j : Int) + 1 = ((j + 1 : Nat) : Int) by omega]
            refine ⟨by omega, ih2 (j + 1) _ (by omega) (by omega) hS' p1 (fun A i' j' a u z y => Int.le_trans (p3 A i' j' (by omega) (by omega)) (h1 A i' j' a u z y)) (fun i' j' u z y => ?_)⟩
            by_cases e : i' = i ∧ j' = j
            · rw [e.1, e.2]; exact p2
            · exact Int.le_trans (p3 19 i' j' (by omega) (by omega)) (h2 i' j' u z (by omega))
      have l36 : ∀ (d3 A : Nat) (G : MF), A + d3 = 13 → St G → Bzg (tcs K) n F0 G → (∀ A' i' j, A' < 13 → i' ≤ j → j ≤ n → (i' < i ∨ i' = i ∧ A' < A) → UUg G A' i' j ≤ tcs K A' i' j) → (∀ i' j, i' ≤ j → j ≤ n → i' < i → UUg G 19 i' j ≤ (j : Int) - (i' : Int)) → L_295_36 (i : Int) (A : Int) G (fun G => In5 K n F0 G) m_no := by
        intro d3
        induction d3 with
        | zero =>
          intro A G hA hSG hR h1 h2
          refine b_295_36 hSG ⟨fun _ => ?_, fun h => absurd (by omega) h⟩
          exact l124 (n + 1 - i) i G (by omega) (Nat.le_refl _) hSG hR (fun A' i' j a u z y => h1 A' i' j a u z (by omega)) (fun i' j u z y => h2 i' j u z (by omega))
        | succ d3 ih3 =>
          intro A G hA hSG hR h1 h2
          obtain ⟨p, hp⟩ : ∃ p : Nat → Bool, p = fun k => clF A (K k) := ⟨_, rfl⟩
          have l47 : ∀ (d4 j : Nat) (G : MF), j + d4 = n + 1 → i ≤ j → St G → Bzg (tcs K) n F0 G → (∀ A' i' j', A' < 13 → i' ≤ j' → j' ≤ n → (i' < i ∨ i' = i ∧ A' < A ∨ i' = i ∧ A' = A ∧ j' < j) → UUg G A' i' j' ≤ tcs K A' i' j') → (∀ i' j, i' ≤ j → j ≤ n → i' < i → UUg G 19 i' j ≤ (j : Int) - (i' : Int)) → L_295_47 (i : Int) (A : Int) (if hitk p i (j - 1) = true then 1 else 0) (j : Int) G (fun G => In5 K n F0 G) m_no := by
            intro d4
            induction d4 with
            | zero =>
              intro j G hj hij hSG hR h1 h2
              refine b_295_47 hSG ⟨fun _ => ⟨by omega, ?_⟩, fun h => ?_⟩
              · rw [show (A : Int) + 1 = ((A + 1 : Nat) : Int) by omega]
                exact ih3 (A + 1) G (by omega) hSG hR (fun A' i' j' a u z y => h1 A' i' j' a u z (by omega)) h2
              · rw [e91 G hR] at h
                omega
            | succ d4 ih4 =>
              intro j G hj hij hSG hR h1 h2
              have tr := tcs_rng (K := K) (A := A) hij
              have et : tcs K A i j = if hitk p i j = true then (j : Int) - (i : Int) - 1 else (j : Int) - (i : Int) + 1 := by rw [hp]; rfl
              have nx : ∀ (v h : Int), v = tcs K A i j → h = (if hitk p i j = true then 1 else 0) → C_293 (A : Int) (i : Int) (j : Int) v G (fun F1 => (-2147483648 ≤ ((j : Int) + 1) ∧ ((j : Int) + 1) < 2147483648) ∧ L_295_47 (i : Int) (A : Int) h ((j : Int) + 1) F1 (fun G => In5 K n F0 G) m_no) m_no := by
                rintro v h rfl rfl
                refine CaV.on (s_293 (show A < 31 by omega) (show i ≤ 10 by omega) (show j ≤ 10 by omega) hSG) ?_
                rintro G' hS' rfl
                obtain ⟨p1, p2, p3⟩ := hR.put (A := A) (v := tcs K A i j) (by omega) hij (show j ≤ n by omega) hn tr.1 (fun _ => Lg.tm (by omega) hij (Int.le_refl _))
                have g := ih4 (j + 1) _ (by omega) (by omega) hS' p1 (fun A' i' j' a u z y => by
                  by_cases e : i' = i ∧ A' = A ∧ j' = j
                  · rw [e.1, e.2.1, e.2.2]; exact p2
                  · exact Int.le_trans (p3 A' i' j' (by omega) (by omega)) (h1 A' i' j' a u z (by omega))) (fun i' j' u z y => Int.le_trans (p3 19 i' j' (by omega) (by omega)) (h2 i' j' u z y))
                rw [Nat.add_sub_cancel, show ((j + 1 : Nat) : Int) = (j : Int) + 1 by omega] at g
                exact ⟨by omega, g⟩
              have hit : hitk p i j = true → L_295_82 (i : Int) (A : Int) (j : Int) G (fun G => In5 K n F0 G) m_no := fun c => b_295_82 hSG ⟨by omega, by omega, nx _ _ (by rw [et, if_pos c]; omega) (by rw [if_pos c])⟩
              have mis : ¬ hitk p i j = true → L_295_86 (i : Int) (A : Int) (j : Int) G (fun G => In5 K n F0 G) m_no := fun c => b_295_86 hSG ⟨by omega, by omega, nx _ _ (by rw [et, if_neg c]) (by rw [if_neg c])⟩
              have step : i < j → hitk p i j = (hitk p i (j - 1) || p (j - 1)) := fun c => by
                obtain ⟨j', rfl⟩ : ∃ j', j = j' + 1 := ⟨j - 1, by omega⟩
                show (hitk p i j' || (decide (i ≤ j') && p j')) = _
                rw [decide_eq_true (by omega), Bool.true_and]
                rfl
              refine b_295_47 hSG ⟨fun h => ?_, fun _ => ⟨fun h0 => ⟨fun hlt => ⟨by omega, by omega, ?_, ?_⟩, fun hlt => ?_⟩, fun h0 => ?_⟩⟩
              · rw [e91 G hR] at h
                omega
              · intro hp4
                rw [show ((j : Int) - 1).toNat = j - 1 by omega, hR.1.1 263 (by decide) (by decide), hK (j - 1) (by omega)] at hp4
                refine hit ?_
                rw [step (by omega), show p (j - 1) = true by rw [hp]; exact (clF_p (by omega)).mp hp4, Bool.or_true]
              · intro hp4
                rw [show ((j : Int) - 1).toNat = j - 1 by omega, hR.1.1 263 (by decide) (by decide), hK (j - 1) (by omega)] at hp4
                refine mis (fun c => ?_)
                rw [step (by omega)] at c
                by_cases z : hitk p i (j - 1) = true
                · rw [if_pos z] at h0; exact absurd h0 (by decide)
                · have z' : hitk p i (j - 1) = false := by cases y : hitk p i (j - 1) with
                    | true => exact absurd y z
                    | false => rfl
                  rw [z', Bool.false_or, hp] at c
                  exact hp4 ((clF_p (by omega)).mpr c)
              · refine mis (fun c => ?_)
                rw [hitk_no (by omega)] at c
                cases c
              · by_cases z : hitk p i (j - 1) = true
                · refine hit ?_
                  by_cases lt : i < j
                  · rw [step lt, z, Bool.true_or]
                  · rw [hitk_no (by omega)] at z; cases z
                · rw [if_neg z] at h0; exact absurd rfl h0
          refine b_295_36 hSG ⟨fun h => by omega, fun _ => ?_⟩
          have g := l47 (n + 1 - i) i G (by omega) (Nat.le_refl _) hSG hR (fun A' i' j' a u z y => h1 A' i' j' a u z (by omega)) h2
          rw [hitk_no (by omega), if_neg (by decide)] at g
          exact g
      refine b_295_26 hSG ⟨fun h => ?_, fun _ => ?_⟩
      · rw [e91 G hR] at h
        omega
      · exact l36 13 0 G (by decide) hSG hR (fun A' i' j a u z y => h1 A' i' j a u z (by omega)) h2
  have l2 : ∀ (d q : Nat) (G : MF), q + d = 3751 → St G → (∀ c, c ≠ 262 → G c = F0 c) → (∀ m, m < q → G 262 m = 1000) → L_295_2 (q : Int) G (fun G => In5 K n F0 G) m_no := by
    intro d
    induction d with
    | zero =>
      intro q G hq hSG g1 g2
      refine b_295_2 hSG ⟨fun h => absurd h (by omega), fun _ => ?_⟩
      refine l26 (n + 1) 0 G (by omega) hSG ⟨⟨fun c _ y => g1 c y, fun m _ => by rw [g1 201 (by decide)]⟩, fun m hm => by rw [g2 m (by omega)]; omega, fun a i j ha u z => Or.inl (g2 _ (by have := ixg_lt ha (show i ≤ 10 by omega) (show j ≤ 10 by omega); omega))⟩ (fun A i' j a u z y => absurd y (Nat.not_lt_zero _)) (fun i' j u z y => absurd y (Nat.not_lt_zero _))
    | succ d ih =>
      intro q G hq hSG g1 g2
      refine b_295_2 hSG ⟨fun _ => ⟨by omega, by omega, ?_⟩, fun h => absurd (by omega) h⟩
      rw [Int.toNat_natCast, show (q : Int) + 1 = ((q + 1 : Nat) : Int) by omega]
      refine ih (q + 1) _ (by omega) (hSG.arr kd_262 (by decide)) (fun c hc => by rw [up_row hc]; exact g1 c hc) (fun m hm => ?_)
      by_cases e : m = q
      · rw [e, u_eq]
      · rw [u_ne (Or.inr e)]; exact g2 m (by omega)
  exact c_295 hS (l2 3751 0 F0 (by decide) hS (fun _ _ => rfl) (fun m h => absurd h (Nat.not_lt_zero _)))
end Mh6
