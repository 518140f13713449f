/-! REPAIR, OF THE REFERENCE: a rule -/
def UUg (F : MF) (A i j : Nat) : Int := F 262 (ixg A i j)
def tot (F : MF) : Nat → Int
  | 0 => 0
  | m + 1 => tot F m + F 262 m
/-- a rule at work: G0 before it, G now -/
def RwI (t : Nat → Nat → Nat → Int) (n A : Nat) (G0 G : MF) : Prop :=
  ((∀ c, c ≠ 201 → c ≠ 262 → G c = G0 c) ∧ ∀ q, q ≠ 92 → G 201 q = G0 201 q) ∧
  (∀ a i j, a < 31 → i ≤ 10 → j ≤ 10 → a ≠ A → UUg G a i j = UUg G0 a i j) ∧ (∀ i j, i ≤ 10 → j ≤ 10 → UUg G A i j ≤ UUg G0 A i j) ∧
  (∀ q, q < 3751 → 0 ≤ G 262 q ∧ G 262 q ≤ 1000) ∧ (∀ i j, i ≤ j → j ≤ n → UUg G A i j = 1000 ∨ Lg t UgF BgF 19 A i j (UUg G A i j)) ∧
  (G 201 92 = G0 201 92 ∧ (∀ q, q < 3751 → G 262 q = G0 262 q) ∨ G 201 92 = 1 ∧ tot G 3751 + 1 ≤ tot G0 3751)
section Mh5
variable {F G G0 G2 : MF} {t : Nat → Nat → Nat → Int} {A b b2 i j k n q : Nat} {x v : Int} {R : MF → Prop}
theorem UU_up (hi : i ≤ 10) (hj : j ≤ 10) {a' i' j' : Nat} (hi' : i' ≤ 10) (hj' : j' ≤ 10) : UUg (m_up F 262 (ixg A i j) x) a' i' j' = if a' = A ∧ i' = i ∧ j' = j then x else UUg F a' i' j' := by
  unfold UUg
  by_cases e : a' = A ∧ i' = i ∧ j' = j
  · obtain ⟨rfl, rfl, rfl⟩ := e
    rw [if_pos ⟨rfl, rfl, rfl⟩, u_eq]
  · rw [if_neg e, u_ne (Or.inr (fun h => e (by unfold ixg at h; omega)))]
theorem ixg_lt (hA : A < 31) (hi : i ≤ 10) (hj : j ≤ 10) : ixg A i j < 3751 := by unfold ixg; omega
theorem q_292 (hA : A < 31) (hi : i ≤ 10) (hj : j ≤ 10) : g_292 F (A : Int) (i : Int) (j : Int) = UUg F A i j ∧ o_292 F (A : Int) (i : Int) (j : Int) := by
  have e : ((121 * (A : Int)) + (11 * (i : Int))) + (j : Int) = ((ixg A i j : Nat) : Int) := by unfold ixg; omega
  have l := ixg_lt hA hi hj
  unfold g_292 o_292 UUg
  rw [e, Int.toNat_natCast]
  exact ⟨rfl, by omega, by omega, by omega, by omega, by omega, trivial⟩
/-- what putting a cost leaves -/
def putG (G : MF) (A i j : Nat) (v : Int) : MF := m_up (m_up G 201 92 (if G 201 92 = 0 then (if v < UUg G A i j then 1 else 0) else 1)) 262 (ixg A i j) (if v < UUg G A i j then v else UUg G A i j)
theorem s_293 (hA : A < 31) (hi : i ≤ 10) (hj : j ≤ 10) (hS : St G) : C_293 (A : Int) (i : Int) (j : Int) v G (fun G' => G' = putG G A i j v) m_no := by
  have e : ((121 * (A : Int)) + (11 * (i : Int))) + (j : Int) = ((ixg A i j : Nat) : Int) := by unfold ixg; omega
  have l := ixg_lt hA hi hj
  have eu : G 262 (ixg A i j) = UUg G A i j := rfl
  refine c_293 hS ?_
  rw [e, Int.toNat_natCast, eu]
  unfold putG
  refine ⟨by omega, by omega, by omega, by omega, fun h => ⟨by omega, fun c => ⟨by omega, by omega, ?_⟩, fun c => ⟨by omega, by omega, by omega, ?_⟩⟩, fun h => ⟨by omega, fun c => ⟨by omega, ?_⟩, fun c => ⟨by omega, by omega, ?_⟩⟩⟩
  · rw [if_pos h, if_pos c, if_pos c]
  · rw [if_pos h, if_neg c, if_neg c]
  · rw [if_neg h, if_pos c]
  · rw [if_neg h, if_neg c]
theorem tot_up (hx : G 262 q + 1 ≤ F 262 q) (ho : ∀ m, m ≠ q → G 262 m = F 262 m) : ∀ m, (q < m → tot G m + 1 ≤ tot F m) ∧ (m ≤ q → tot G m = tot F m)
  | 0 => ⟨fun h => absurd h (Nat.not_lt_zero _), fun _ => rfl⟩
  | m + 1 => by
    have ih := tot_up hx ho m
    show (q < m + 1 → tot G m + G 262 m + 1 ≤ tot F m + F 262 m) ∧ (m + 1 ≤ q → tot G m + G 262 m = tot F m + F 262 m)
    refine ⟨fun h => ?_, fun h => ?_⟩
    · by_cases e : q = m
      · subst e
        have := ih.2 (Nat.le_refl _)
        omega
      · have := ih.1 (by omega)
        have := ho m (fun h => e h.symm)
        omega
    · have := ih.2 (by omega)
      have := ho m (by omega)
      omega
theorem tot_eq : ∀ m, (∀ q, q < m → G 262 q = F 262 q) → tot G m = tot F m
  | 0, _ => rfl
  | m + 1, h => by
    show tot G m + G 262 m = tot F m + F 262 m
    rw [tot_eq m (fun q hq => h q (by omega)), h m (Nat.lt_succ_self m)]
theorem tot_0 : ∀ m, (∀ q, q < m → 0 ≤ G 262 q) → 0 ≤ tot G m
  | 0, _ => Int.le_refl _
  | m + 1, h => by
    have h1 := tot_0 m (fun q hq => h q (by omega))
    have h2 := h m (Nat.lt_succ_self m)
    show 0 ≤ tot G m + G 262 m
    omega
theorem RwI.put (hA : A < 31) (hij : i ≤ j) (hj : j ≤ n) (hn : n ≤ 10) (h : RwI t n A G0 G) (h92 : G0 201 92 = 0 ∨ G0 201 92 = 1) (hv : 0 ≤ v) (hl : v < 1000 → Lg t UgF BgF 19 A i j v) :
    RwI t n A G0 (putG G A i j v) ∧ UUg (putG G A i j v) A i j ≤ v ∧ ∀ i' j', i' ≤ 10 → j' ≤ 10 → UUg (putG G A i j v) A i' j' ≤ UUg G A i' j' := by
  obtain ⟨⟨h1, h1a⟩, h2, h3, h4, h5, h6⟩ := h
  have l := ixg_lt hA (show i ≤ 10 by omega) (show j ≤ 10 by omega)
  have c0 := h4 _ l
  change 0 ≤ UUg G A i j ∧ UUg G A i j ≤ 1000 at c0
  obtain ⟨w, hw⟩ : ∃ w, w = if v < UUg G A i j then v else UUg G A i j := ⟨_, rfl⟩
  have w1 : w ≤ v ∧ w ≤ UUg G A i j ∧ 0 ≤ w := by rw [hw]; split <;> omega
  have up : ∀ a i' j', i' ≤ 10 → j' ≤ 10 → UUg (putG G A i j v) a i' j' = if a = A ∧ i' = i ∧ j' = j then w else UUg G a i' j' := fun a i' j' u z => by
    unfold putG
    rw [← hw, UU_up (by omega) (by omega) u z]
    rfl
  have le : ∀ i' j', i' ≤ 10 → j' ≤ 10 → UUg (putG G A i j v) A i' j' ≤ UUg G A i' j' := fun i' j' u z => by
    rw [up A i' j' u z]
    split
    · next e => rw [e.2.1, e.2.2]; exact w1.2.1
    · exact Int.le_refl _
  have row : ∀ q, putG G A i j v 262 q = if q = ixg A i j then w else G 262 q := fun q => by
    unfold putG
    rw [← hw]
    by_cases e : q = ixg A i j
    · rw [if_pos e, e, u_eq]
    · rw [if_neg e, u_ne (Or.inr e), up_row (by decide)]
  refine ⟨⟨⟨fun c x y => ?_, fun q hq => ?_⟩, fun a i' j' ha u z e => ?_, fun i' j' u z => Int.le_trans (le i' j' u z) (h3 i' j' u z), fun q hq => ?_, fun i' j' u z => ?_, ?_⟩, ?_, le⟩
  · unfold putG
    rw [up_row y, up_row x]; exact h1 c x y
  · unfold putG
    rw [up_row (by decide), u_ne (Or.inr hq)]; exact h1a q hq
  · rw [up a i' j' u z, if_neg (fun h => e h.1)]; exact h2 a i' j' ha u z e
  · rw [row]
    split
    · omega
    · exact h4 q hq
  · rw [up A i' j' (by omega) (by omega)]
    split
    · next e =>
      rw [e.2.1, e.2.2]
      by_cases c : v < UUg G A i j
      · rw [if_pos c] at hw
        rw [hw]
        exact Or.inr (hl (by omega))
      · rw [if_neg c] at hw
        rw [hw]
        exact h5 i j hij hj
    · exact h5 i' j' u z
  · have e92 : putG G A i j v 201 92 = if G 201 92 = 0 then (if v < UUg G A i j then 1 else 0) else 1 := by
      unfold putG
      rw [up_row (by decide), u_eq]
    rw [e92]
    by_cases c : v < UUg G A i j
    · right
      rw [if_pos c] at hw
      have tu := (tot_up (G := putG G A i j v) (F := G) (q := ixg A i j) (by rw [row, if_pos rfl, hw]; show v + 1 ≤ UUg G A i j; omega) (fun m hm => by rw [row, if_neg hm]) 3751).1 l
      refine ⟨by rw [if_pos c]; split <;> rfl, ?_⟩
      rcases h6 with ⟨-, e⟩ | ⟨-, e⟩
      · have := tot_eq (G := G) (F := G0) 3751 e
        omega
      · omega
    · rw [if_neg c] at hw
      have same : ∀ q, putG G A i j v 262 q = G 262 q := fun q => by
        rw [row]
        split
        · next e => rw [hw, e]; rfl
        · rfl
      rcases h6 with ⟨e, e2⟩ | ⟨e, e2⟩
      · left
        rw [e, if_neg c]
        refine ⟨?_, fun q hq => (same q).trans (e2 q hq)⟩
        rcases h92 with z | z
        · rw [z, if_pos rfl]
        · rw [z, if_neg (by decide)]
      · right
        rw [e, if_neg (by decide)]
        refine ⟨rfl, ?_⟩
        rw [tot_eq (G := putG G A i j v) (F := G) 3751 (fun q _ => same q)]
        exact e2
  · rw [up A i j (by omega) (by omega), if_pos ⟨rfl, rfl, rfl⟩]; exact w1.1
theorem RwI.rf (hv : ∀ q, q < 3751 → 0 ≤ G 262 q ∧ G 262 q ≤ 1000) (hs : ∀ i j, i ≤ j → j ≤ n → UUg G A i j = 1000 ∨ Lg t UgF BgF 19 A i j (UUg G A i j)) : RwI t n A G G :=
  ⟨⟨fun _ _ _ => rfl, fun _ _ => rfl⟩, fun _ _ _ _ _ _ _ => rfl, fun _ _ _ _ => Int.le_refl _, hv, hs, Or.inl ⟨rfl, fun _ _ => rfl⟩⟩
theorem putSt (hS : St G) : St (putG G A i j v) := (hS.fld kd_201 rk_12_92).arr kd_262 (by decide)
theorem s_296 (hA : A < 31) (hb : b < 31) (hb2 : b2 < 31) (hne : b ≠ A ∧ b2 ≠ A) (hm : (A, b, b2) ∈ BgF) (hn : n ≤ 10) (hS : St G0) (h91 : G0 201 91 = (n : Int)) (h92 : G0 201 92 = 0 ∨ G0 201 92 = 1) (hv : ∀ q, q < 3751 → 0 ≤ G0 262 q ∧ G0 262 q ≤ 1000) (hs : ∀ a i j, a < 31 → i ≤ j → j ≤ n → UUg G0 a i j = 1000 ∨ Lg t UgF BgF 19 a i j (UUg G0 a i j)) :
    C_296 (A : Int) (b : Int) (b2 : Int) G0 (fun G => RwI t n A G0 G ∧ ∀ i k j, i ≤ k → k ≤ j → j ≤ n → UUg G A i j ≤ UUg G0 b i k + UUg G0 b2 k j) m_no := by
  have e91 : ∀ G, RwI t n A G0 G → G 201 91 = (n : Int) := fun G h => (h.1.2 91 (by decide)).trans h91
  have l3 : ∀ (d i : Nat) (G : MF), i + d = n + 1 → St G → RwI t n A G0 G → (∀ i' k' j', i' ≤ k' → k' ≤ j' → j' ≤ n → i' < i → UUg G A i' j' ≤ UUg G0 b i' k' + UUg G0 b2 k' j') → L_296_3 (A : Int) (b : Int) (b2 : Int) (i : Int) G (fun G => RwI t n A G0 G ∧ ∀ i k j, i ≤ k → k ≤ j → j ≤ n → UUg G A i j ≤ UUg G0 b i k + UUg G0 b2 k j) m_no := by
    intro d
    induction d with
    | zero =>
      intro i G hi hSG hR hD
      refine b_296_3 hSG ⟨fun _ => ⟨hR, fun i' k' j' u w z => hD i' k' j' u w z (by omega)⟩, fun h => ?_⟩
      rw [e91 G hR] at h
      omega
    | succ d ih =>
      intro i G hi hSG hR hD
      have l16 : ∀ (d2 j : Nat) (G : MF), j + d2 = n + 1 → i ≤ j → St G → RwI t n A G0 G → (∀ i' k' j', i' ≤ k' → k' ≤ j' → j' ≤ n → (i' < i ∨ i' = i ∧ j' < j) → UUg G A i' j' ≤ UUg G0 b i' k' + UUg G0 b2 k' j') → L_296_16 (A : Int) (b : Int) (b2 : Int) (i : Int) (j : Int) G (fun G => RwI t n A G0 G ∧ ∀ i k j, i ≤ k → k ≤ j → j ≤ n → UUg G A i j ≤ UUg G0 b i k + UUg G0 b2 k j) m_no := by
        intro d2
        induction d2 with
        | zero =>
          intro j G hj hij hSG hR hD
          refine b_296_16 hSG ⟨fun _ => ⟨by omega, ?_⟩, fun h => ?_⟩
          · rw [show (i : Int) + 1 = ((i + 1 : Nat) : Int) by omega]
            exact ih (i + 1) G (by omega) hSG hR (fun i' k' j' u w z y => hD i' k' j' u w z (by omega))
          · rw [e91 G hR] at h
            omega
        | succ d2 ih2 =>
          intro j G hj hij hSG hR hD
          have l29 : ∀ (d3 k : Nat) (G : MF), k + d3 = j + 1 → i ≤ k → St G → RwI t n A G0 G → (∀ i' k' j', i' ≤ k' → k' ≤ j' → j' ≤ n → (i' < i ∨ i' = i ∧ j' < j ∨ i' = i ∧ j' = j ∧ k' < k) → UUg G A i' j' ≤ UUg G0 b i' k' + UUg G0 b2 k' j') → L_296_29 (A : Int) (b : Int) (b2 : Int) (i : Int) (j : Int) (k : Int) G (fun G => RwI t n A G0 G ∧ ∀ i k j, i ≤ k → k ≤ j → j ≤ n → UUg G A i j ≤ UUg G0 b i k + UUg G0 b2 k j) m_no := by
            intro d3
            induction d3 with
            | zero =>
              intro k G hk hik hSG hR hD
              refine b_296_29 hSG ⟨fun _ => ⟨by omega, ?_⟩, fun h => absurd (by omega) h⟩
              rw [show (j : Int) + 1 = ((j + 1 : Nat) : Int) by omega]
              exact ih2 (j + 1) G (by omega) (by omega) hSG hR (fun i' k' j' u w z y => hD i' k' j' u w z (by omega))
            | succ d3 ih3 =>
              intro k G hk hik hSG hR hD
              obtain ⟨f1, f2⟩ := q_292 (F := G) hb (show i ≤ 10 by omega) (show k ≤ 10 by omega)
              obtain ⟨f3, f4⟩ := q_292 (F := G) hb2 (show k ≤ 10 by omega) (show j ≤ 10 by omega)
              have c1 := hv _ (ixg_lt hb (show i ≤ 10 by omega) (show k ≤ 10 by omega))
              have c2 := hv _ (ixg_lt hb2 (show k ≤ 10 by omega) (show j ≤ 10 by omega))
              change 0 ≤ UUg G0 b i k ∧ UUg G0 b i k ≤ 1000 at c1
              change 0 ≤ UUg G0 b2 k j ∧ UUg G0 b2 k j ≤ 1000 at c2
              refine b_296_29 hSG ⟨fun h => by omega, fun _ => ?_⟩
              rw [f1, f3, hR.2.1 b i k hb (by omega) (by omega) hne.1, hR.2.1 b2 k j hb2 (by omega) (by omega) hne.2, show (k : Int) + 1 = ((k + 1 : Nat) : Int) by omega]
              refine ⟨f2, f4, by omega, CaV.on (s_293 hA (by omega) (by omega) hSG) ?_⟩
              rintro G' hS' rfl
              obtain ⟨p1, p2, p3⟩ := hR.put (v := UUg G0 b i k + UUg G0 b2 k j) hA (show i ≤ j by omega) (show j ≤ n by omega) hn h92 (by omega) (fun h => Lg.bi hm ((hs b i k hb hik (by omega)).resolve_left (by omega)) ((hs b2 k j hb2 (by omega) (by omega)).resolve_left (by omega)) (Int.le_refl _))
              refine ⟨by omega, ih3 (k + 1) _ (by omega) (by omega) hS' p1 (fun i' k' j' u w z y => ?_)⟩
              by_cases e : i' = i ∧ j' = j ∧ k' = k
              · obtain ⟨rfl, rfl, rfl⟩ := e
                exact p2
              · exact Int.le_trans (p3 i' j' (by omega) (by omega)) (hD i' k' j' u w z (by omega))
          refine b_296_16 hSG ⟨fun h => ?_, fun _ => ?_⟩
          · rw [e91 G hR] at h
            omega
          · exact l29 (j + 1 - i) i G (by omega) (Nat.le_refl _) hSG hR (fun i' k' j' u w z y => hD i' k' j' u w z (by omega))
      refine b_296_3 hSG ⟨fun h => ?_, fun _ => ?_⟩
      · rw [e91 G hR] at h
        omega
      · exact l16 (n + 1 - i) i G (by omega) (Nat.le_refl _) hSG hR (fun i' k' j' u w z y => hD i' k' j' u w z (by omega))
  exact c_296 hS (l3 (n + 1) 0 G0 (by omega) hS (RwI.rf hv (hs A · · hA)) (fun i' k' j' u w z y => absurd y (Nat.not_lt_zero _)))
theorem s_297 (hA : A < 31) (hb : b < 31) (hne : b ≠ A) (hm : (A, b) ∈ UgF) (hn : n ≤ 10) (hS : St G0) (h91 : G0 201 91 = (n : Int)) (h92 : G0 201 92 = 0 ∨ G0 201 92 = 1) (hv : ∀ q, q < 3751 → 0 ≤ G0 262 q ∧ G0 262 q ≤ 1000) (hs : ∀ a i j, a < 31 → i ≤ j → j ≤ n → UUg G0 a i j = 1000 ∨ Lg t UgF BgF 19 a i j (UUg G0 a i j)) :
    C_297 (A : Int) (b : Int) G0 (fun G => RwI t n A G0 G ∧ ∀ i j, i ≤ j → j ≤ n → UUg G A i j ≤ UUg G0 b i j) m_no := by
  have e91 : ∀ G, RwI t n A G0 G → G 201 91 = (n : Int) := fun G h => (h.1.2 91 (by decide)).trans h91
  have l2 : ∀ (d i : Nat) (G : MF), i + d = n + 1 → St G → RwI t n A G0 G → (∀ i' j', i' ≤ j' → j' ≤ n → i' < i → UUg G A i' j' ≤ UUg G0 b i' j') → L_297_2 (A : Int) (b : Int) (i : Int) G (fun G => RwI t n A G0 G ∧ ∀ i j, i ≤ j → j ≤ n → UUg G A i j ≤ UUg G0 b i j) m_no := by
    intro d
    induction d with
    | zero =>
      intro i G hi hSG hR hD
      refine b_297_2 hSG ⟨fun _ => ⟨hR, fun i' j' u z => hD i' j' u z (by omega)⟩, fun h => ?_⟩
      rw [e91 G hR] at h
      omega
    | succ d ih =>
      intro i G hi hSG hR hD
      have l13 : ∀ (d2 j : Nat) (G : MF), j + d2 = n + 1 → i ≤ j → St G → RwI t n A G0 G → (∀ i' j', i' ≤ j' → j' ≤ n → (i' < i ∨ i' = i ∧ j' < j) → UUg G A i' j' ≤ UUg G0 b i' j') → L_297_13 (A : Int) (b : Int) (i : Int) (j : Int) G (fun G => RwI t n A G0 G ∧ ∀ i j, i ≤ j → j ≤ n → UUg G A i j ≤ UUg G0 b i j) m_no := by
        intro d2
        induction d2 with
        | zero =>
          intro j G hj hij hSG hR hD
          refine b_297_13 hSG ⟨fun _ => ⟨by omega, ?_⟩, fun h => ?_⟩
          · rw [show (i : Int) + 1 = ((i + 1 : Nat) : Int) by omega]
            exact ih (i + 1) G (by omega) hSG hR (fun i' j' u z y => hD i' j' u z (by omega))
          · rw [e91 G hR] at h
            omega
        | succ d2 ih2 =>
          intro j G hj hij hSG hR hD
          obtain ⟨f1, f2⟩ := q_292 (F := G) hb (show i ≤ 10 by omega) (show j ≤ 10 by omega)
          have c1 := hv _ (ixg_lt hb (show i ≤ 10 by omega) (show j ≤ 10 by omega))
          change 0 ≤ UUg G0 b i j ∧ UUg G0 b i j ≤ 1000 at c1
          refine b_297_13 hSG ⟨fun h => ?_, fun _ => ?_⟩
          · rw [e91 G hR] at h
            omega
          · rw [f1, hR.2.1 b i j hb (by omega) (by omega) hne, show (j : Int) + 1 = ((j + 1 : Nat) : Int) by omega]
            refine ⟨f2, CaV.on (s_293 hA (by omega) (by omega) hSG) ?_⟩
            rintro G' hS' rfl
            obtain ⟨p1, p2, p3⟩ := hR.put (v := UUg G0 b i j) hA hij (show j ≤ n by omega) hn h92 (by omega) (fun h => Lg.un hm ((hs b i j hb hij (by omega)).resolve_left (by omega)))
            refine ⟨by omega, ih2 (j + 1) _ (by omega) (by omega) hS' p1 (fun i' j' u z y => ?_)⟩
            by_cases e : i' = i ∧ j' = j
            · obtain ⟨rfl, rfl⟩ := e
              exact p2
            · exact Int.le_trans (p3 i' j' (by omega) (by omega)) (hD i' j' u z (by omega))
      refine b_297_2 hSG ⟨fun h => ?_, fun _ => ?_⟩
      · rw [e91 G hR] at h
        omega
      · exact l13 (n + 1 - i) i G (by omega) (Nat.le_refl _) hSG hR (fun i' j' u z y => hD i' j' u z (by omega))
  exact c_297 hS (l2 (n + 1) 0 G0 (by omega) hS (RwI.rf hv (hs A · · hA)) (fun i' j' u z y => absurd y (Nat.not_lt_zero _)))
end Mh5
