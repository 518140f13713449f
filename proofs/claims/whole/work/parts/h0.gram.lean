/-! REPAIR: what it costs to make tokens a sentence of a grammar; the class's grammar and the reference's -/
/-- made in at most d steps, at the cost c -/
def Dg (t : Nat → Nat → Nat → Int) (U : List (Nat × Nat)) (B : List (Nat × Nat × Nat)) (e : Nat) : Nat → Nat → Nat → Nat → Int → Prop
  | 0, _, _, _, _ => False
  | d + 1, A, i, j, c => i ≤ j ∧ ((A < 13 ∧ c = t A i j) ∨ (A = e ∧ c = (j : Int) - (i : Int)) ∨ (∃ b, (A, b) ∈ U ∧ Dg t U B e d b i j c) ∨
      ∃ (b b2 k : Nat) (x y : Int), (A, b, b2) ∈ B ∧ Dg t U B e d b i k x ∧ Dg t U B e d b2 k j y ∧ c = x + y)
/-- at most so much -/
def Lg (t : Nat → Nat → Nat → Int) (U : List (Nat × Nat)) (B : List (Nat × Nat × Nat)) (e A i j : Nat) (c : Int) : Prop := ∃ d x, Dg t U B e d A i j x ∧ x ≤ c
def UgC : List (Nat × Nat) := [(13, 8), (13, 14), (13, 19), (16, 5), (17, 26), (21, 13), (22, 21), (24, 22), (26, 24), (31, 30)]
def BgC : List (Nat × Nat × Nat) := [(14, 1, 15), (15, 4, 16), (16, 17, 5), (17, 26, 18), (18, 7, 17), (19, 4, 20), (20, 26, 5), (21, 12, 13), (22, 22, 23), (23, 11, 21), (24, 24, 25), (25, 10, 22), (26, 24, 27), (27, 9, 24), (28, 26, 3), (29, 2, 28), (30, 1, 29), (31, 0, 30), (31, 6, 28), (31, 14, 3)]
def UgF : List (Nat × Nat) := [(17, 0), (16, 17), (15, 16), (14, 15), (13, 14), (18, 13), (19, 18)]
def BgF : List (Nat × Nat × Nat) := [(20, 1, 13), (21, 1, 19), (22, 21, 2), (17, 3, 22), (17, 20, 2), (16, 12, 17), (23, 15, 9), (15, 23, 16), (24, 14, 10), (14, 24, 15), (25, 14, 11), (13, 25, 14), (26, 18, 4), (18, 26, 13), (27, 3, 6), (28, 7, 27), (29, 27, 13), (29, 28, 13), (29, 8, 13), (29, 3, 22), (30, 29, 5)]
/-- the reference's number of a class of tokens of the class -/
def sgm (a : Nat) : Nat := ([7, 3, 6, 5, 1, 2, 8, 4, 0, 11, 10, 9, 12] : List Nat).getD a 0
section Mh0
variable {t : Nat → Nat → Nat → Int} {U : List (Nat × Nat)} {B : List (Nat × Nat × Nat)} {e A b b2 i j k d : Nat} {c x y z : Int}
theorem Dg.rng : ∀ {d A i j : Nat} {c : Int}, Dg t U B e d A i j c → i ≤ j
  | 0, _, _, _, _, h => h.elim
  | _ + 1, _, _, _, _, h => h.1
theorem Dg.up : ∀ {d A i j : Nat} {c : Int}, Dg t U B e d A i j c → Dg t U B e (d + 1) A i j c
  | 0, _, _, _, _, h => h.elim
  | d + 1, A, i, j, c, ⟨h0, h⟩ => by
    refine ⟨h0, ?_⟩
    rcases h with h | h | ⟨b, h1, h2⟩ | ⟨b, b2, k, x, y, h1, h2, h3, h4⟩
    · exact Or.inl h
    · exact Or.inr (Or.inl h)
    · exact Or.inr (Or.inr (Or.inl ⟨b, h1, Dg.up h2⟩))
    · exact Or.inr (Or.inr (Or.inr ⟨b, b2, k, x, y, h1, Dg.up h2, Dg.up h3, h4⟩))
theorem Dg.add : ∀ (m : Nat), Dg t U B e d A i j c → Dg t U B e (d + m) A i j c
  | 0, h => h
  | m + 1, h => Dg.up (Dg.add m h)
theorem Lg.rng (h : Lg t U B e A i j c) : i ≤ j := by
  obtain ⟨d, x, h1, -⟩ := h
  exact h1.rng
theorem Lg.le (h : Lg t U B e A i j x) (hc : x ≤ c) : Lg t U B e A i j c := by
  obtain ⟨d, x, h1, h2⟩ := h
  exact ⟨d, x, h1, by omega⟩
theorem Lg.tm (hA : A < 13) (hij : i ≤ j) (h : t A i j ≤ c) : Lg t U B e A i j c := ⟨1, _, ⟨hij, Or.inl ⟨hA, rfl⟩⟩, h⟩
theorem Lg.ep (hij : i ≤ j) (h : (j : Int) - (i : Int) ≤ c) : Lg t U B e e i j c := ⟨1, _, ⟨hij, Or.inr (Or.inl ⟨rfl, rfl⟩)⟩, h⟩
theorem Lg.un (hm : (A, b) ∈ U) (h : Lg t U B e b i j c) : Lg t U B e A i j c := by
  obtain ⟨d, x, h1, h2⟩ := h
  exact ⟨d + 1, x, ⟨h1.rng, Or.inr (Or.inr (Or.inl ⟨b, hm, h1⟩))⟩, h2⟩
theorem Lg.bi (hm : (A, b, b2) ∈ B) (h : Lg t U B e b i k x) (h' : Lg t U B e b2 k j y) (hc : x + y ≤ c) : Lg t U B e A i j c := by
  obtain ⟨d, x, h1, h2⟩ := h
  obtain ⟨d', y, h3, h4⟩ := h'
  have r1 := h1.rng
  have r2 := h3.rng
  refine ⟨d + d' + 1, x + y, ⟨by omega, Or.inr (Or.inr (Or.inr ⟨b, b2, k, x, y, hm, h1.add d', ?_, rfl⟩))⟩, by omega⟩
  rw [Nat.add_comm d d']
  exact h3.add d
/-- two parts -/
def Sg (t : Nat → Nat → Nat → Int) (U : List (Nat × Nat)) (B : List (Nat × Nat × Nat)) (e b b2 i j : Nat) (c : Int) : Prop := ∃ (k : Nat) (x y : Int), Lg t U B e b i k x ∧ Lg t U B e b2 k j y ∧ x + y ≤ c
/-- what a symbol of the class is in the reference -/
def PgC (t : Nat → Nat → Nat → Int) (i j : Nat) (c : Int) : Nat → Prop
  | 13 => Lg t UgF BgF 19 17 i j c
  | 14 => Sg t UgF BgF 19 3 22 i j c
  | 15 => Lg t UgF BgF 19 22 i j c
  | 16 => Sg t UgF BgF 19 19 2 i j c
  | 17 => Lg t UgF BgF 19 18 i j c
  | 18 => Sg t UgF BgF 19 4 18 i j c
  | 19 => Lg t UgF BgF 19 17 i j c
  | 20 => Sg t UgF BgF 19 13 2 i j c
  | 21 => Lg t UgF BgF 19 16 i j c
  | 22 => Lg t UgF BgF 19 15 i j c
  | 23 => Sg t UgF BgF 19 9 16 i j c
  | 24 => Lg t UgF BgF 19 14 i j c
  | 25 => Sg t UgF BgF 19 10 15 i j c
  | 26 => Lg t UgF BgF 19 13 i j c
  | 27 => Sg t UgF BgF 19 11 14 i j c
  | 28 => Sg t UgF BgF 19 13 5 i j c
  | 29 => ∃ (k : Nat) (x y : Int), Lg t UgF BgF 19 6 i k x ∧ Sg t UgF BgF 19 13 5 k j y ∧ x + y ≤ c
  | 30 => ∃ (k : Nat) (x y : Int), Lg t UgF BgF 19 3 i k x ∧ (∃ (k2 : Nat) (x2 y2 : Int), Lg t UgF BgF 19 6 k k2 x2 ∧ Sg t UgF BgF 19 13 5 k2 j y2 ∧ x2 + y2 ≤ y) ∧ x + y ≤ c
  | 31 => Lg t UgF BgF 19 30 i j c
  | A => A < 13 → Lg t UgF BgF 19 (sgm A) i j c
theorem rowF : ∀ (d : Nat) {i k k2 j : Nat} {x y z c : Int}, Dg t UgF BgF 19 d 18 k2 j y → Lg t UgF BgF 19 13 i k x → Lg t UgF BgF 19 4 k k2 z → x + z + y ≤ c → Lg t UgF BgF 19 18 i j c := by
  intro d
  induction d with
  | zero => intro i k k2 j x y z c h; exact h.elim
  | succ d ih =>
    intro i k k2 j x y z c h h1 h2 hc
    have a1 : Lg t UgF BgF 19 26 i k2 (x + z) := Lg.bi (b := 18) (b2 := 4) (by decide) (Lg.un (b := 13) (by decide) h1) h2 (Int.le_refl _)
    obtain ⟨-, h | h | ⟨b, m1, m2⟩ | ⟨b, b2, m, u, v, m1, m2, m3, m4⟩⟩ := h
    · omega
    · omega
    · have e : b = 13 := by simpa [UgF] using m1
      subst e
      exact Lg.bi (b := 26) (b2 := 13) (by decide) a1 ⟨d, y, m2, Int.le_refl _⟩ hc
    · have e : b = 26 ∧ b2 = 13 := by simpa [BgF] using m1
      obtain ⟨rfl, rfl⟩ := e
      cases d with
      | zero => exact m2.elim
      | succ d =>
        obtain ⟨-, h | h | ⟨b, n1, n2⟩ | ⟨b, b2, m', u', v', n1, n2, n3, n4⟩⟩ := m2
        · omega
        · omega
        · exact absurd n1 (by simp [UgF])
        · have e : b = 18 ∧ b2 = 4 := by simpa [BgF] using n1
          obtain ⟨rfl, rfl⟩ := e
          have a2 := ih (c := x + z + u') n2.up h1 h2 (Int.le_refl _)
          have a3 : Lg t UgF BgF 19 26 i m (x + z + u' + v') := Lg.bi (b := 18) (b2 := 4) (by decide) a2 ⟨d, v', n3, Int.le_refl _⟩ (Int.le_refl _)
          exact Lg.bi (b := 26) (b2 := 13) (by decide) a3 ⟨d + 1, v, m3, Int.le_refl _⟩ (by omega)
theorem gram_cr : ∀ (d : Nat) {A i j : Nat} {c : Int}, Dg (fun a => t (sgm a)) UgC BgC 99 d A i j c → PgC t i j c A := by
  intro d
  induction d with
  | zero => intro A i j c h; exact h.elim
  | succ d ih =>
    intro A i j c h
    obtain ⟨hij, h | h | ⟨b, m1, m2⟩ | ⟨b, b2, k, x, y, m1, m2, m3, rfl⟩⟩ := h
    · obtain ⟨h1, rfl⟩ := h
      have key : Lg t UgF BgF 19 (sgm A) i j (t (sgm A) i j) := Lg.tm (by
        have : ∀ a, a < 13 → sgm a < 13 := by decide
        exact this A h1) hij (Int.le_refl _)
      rcases A with _ | _ | _ | _ | _ | _ | _ | _ | _ | _ | _ | _ | _ | A
      all_goals first | exact fun _ => key | omega
    · obtain ⟨rfl, -⟩ := h
      exact fun h => absurd h (by decide)
    · have g := ih m2
      simp only [UgC, List.mem_cons, Prod.mk.injEq, List.not_mem_nil, or_false] at m1
      rcases m1 with ⟨rfl, rfl⟩ | ⟨rfl, rfl⟩ | ⟨rfl, rfl⟩ | ⟨rfl, rfl⟩ | ⟨rfl, rfl⟩ | ⟨rfl, rfl⟩ | ⟨rfl, rfl⟩ | ⟨rfl, rfl⟩ | ⟨rfl, rfl⟩ | ⟨rfl, rfl⟩
      · exact Lg.un (b := 0) (by decide) (g (by decide))
      · obtain ⟨k, x, y, g1, g2, g3⟩ := g
        exact Lg.bi (b := 3) (b2 := 22) (by decide) g1 g2 g3
      · exact g
      · exact ⟨i, 0, c, Lg.ep (Nat.le_refl _) (by omega), g (by decide), by omega⟩
      · exact Lg.un (b := 13) (by decide) g
      · exact Lg.un (b := 17) (by decide) g
      · exact Lg.un (b := 16) (by decide) g
      · exact Lg.un (b := 15) (by decide) g
      · exact Lg.un (b := 14) (by decide) g
      · obtain ⟨k, x, y, g1, ⟨k2, x2, y2, g2, ⟨k3, x3, y3, g3, g4, g5⟩, g6⟩, g7⟩ := g
        exact Lg.bi (b := 29) (b2 := 5) (x := x + x2 + x3) (by decide) (Lg.bi (b := 27) (b2 := 13) (x := x + x2) (by decide) (Lg.bi (b := 3) (b2 := 6) (by decide) g1 g2 (Int.le_refl _)) g3 (Int.le_refl _)) g4 (by omega)
    · have g := ih m2
      have g' := ih m3
      simp only [BgC, List.mem_cons, Prod.mk.injEq, List.not_mem_nil, or_false] at m1
      rcases m1 with ⟨rfl, rfl, rfl⟩ | ⟨rfl, rfl, rfl⟩ | ⟨rfl, rfl, rfl⟩ | ⟨rfl, rfl, rfl⟩ | ⟨rfl, rfl, rfl⟩ | ⟨rfl, rfl, rfl⟩ | ⟨rfl, rfl, rfl⟩ | ⟨rfl, rfl, rfl⟩ | ⟨rfl, rfl, rfl⟩ | ⟨rfl, rfl, rfl⟩ | ⟨rfl, rfl, rfl⟩ | ⟨rfl, rfl, rfl⟩ | ⟨rfl, rfl, rfl⟩ | ⟨rfl, rfl, rfl⟩ | ⟨rfl, rfl, rfl⟩ | ⟨rfl, rfl, rfl⟩ | ⟨rfl, rfl, rfl⟩ | ⟨rfl, rfl, rfl⟩ | ⟨rfl, rfl, rfl⟩ | ⟨rfl, rfl, rfl⟩
      · exact ⟨k, x, y, g (by decide), g', Int.le_refl _⟩
      · obtain ⟨k2, x2, y2, g1, g2, g3⟩ := g'
        exact Lg.bi (b := 21) (b2 := 2) (x := x + x2) (by decide) (Lg.bi (b := 1) (b2 := 19) (by decide) (g (by decide)) g1 (Int.le_refl _)) g2 (by omega)
      · exact ⟨k, x, y, Lg.un (b := 18) (by decide) g, g' (by decide), Int.le_refl _⟩
      · obtain ⟨k2, x2, y2, g1, g2, g3⟩ := g'
        obtain ⟨d2, y3, g4, g5⟩ := g2
        exact rowF d2 g4 g g1 (by omega)
      · exact ⟨k, x, y, g (by decide), g', Int.le_refl _⟩
      · obtain ⟨k2, x2, y2, g1, g2, g3⟩ := g'
        exact Lg.bi (b := 20) (b2 := 2) (x := x + x2) (by decide) (Lg.bi (b := 1) (b2 := 13) (by decide) (g (by decide)) g1 (Int.le_refl _)) g2 (by omega)
      · exact ⟨k, x, y, g, g' (by decide), Int.le_refl _⟩
      · exact Lg.bi (b := 12) (b2 := 17) (by decide) (g (by decide)) g' (Int.le_refl _)
      · obtain ⟨k2, x2, y2, g1, g2, g3⟩ := g'
        exact Lg.bi (b := 23) (b2 := 16) (x := x + x2) (by decide) (Lg.bi (b := 15) (b2 := 9) (by decide) g g1 (Int.le_refl _)) g2 (by omega)
      · exact ⟨k, x, y, g (by decide), g', Int.le_refl _⟩
      · obtain ⟨k2, x2, y2, g1, g2, g3⟩ := g'
        exact Lg.bi (b := 24) (b2 := 15) (x := x + x2) (by decide) (Lg.bi (b := 14) (b2 := 10) (by decide) g g1 (Int.le_refl _)) g2 (by omega)
      · exact ⟨k, x, y, g (by decide), g', Int.le_refl _⟩
      · obtain ⟨k2, x2, y2, g1, g2, g3⟩ := g'
        exact Lg.bi (b := 25) (b2 := 14) (x := x + x2) (by decide) (Lg.bi (b := 14) (b2 := 11) (by decide) g g1 (Int.le_refl _)) g2 (by omega)
      · exact ⟨k, x, y, g (by decide), g', Int.le_refl _⟩
      · exact ⟨k, x, y, g, g' (by decide), Int.le_refl _⟩
      · exact ⟨k, x, y, g (by decide), g', Int.le_refl _⟩
      · exact ⟨k, x, y, g (by decide), g', Int.le_refl _⟩
      · obtain ⟨k1, x1, y1, g1, ⟨k2, x2, y2, g2, ⟨k3, x3, y3, g3, g4, g5⟩, g6⟩, g7⟩ := g'
        exact Lg.bi (b := 29) (b2 := 5) (x := x + (x1 + x2) + x3) (by decide) (Lg.bi (b := 28) (b2 := 13) (x := x + (x1 + x2)) (by decide) (Lg.bi (b := 7) (b2 := 27) (by decide) (g (by decide)) (Lg.bi (b := 3) (b2 := 6) (by decide) g1 g2 (Int.le_refl _)) (Int.le_refl _)) g3 (Int.le_refl _)) g4 (by omega)
      · obtain ⟨k2, x2, y2, g1, g2, g3⟩ := g'
        exact Lg.bi (b := 29) (b2 := 5) (x := x + x2) (by decide) (Lg.bi (b := 8) (b2 := 13) (by decide) (g (by decide)) g1 (Int.le_refl _)) g2 (by omega)
      · obtain ⟨k2, x2, y2, g1, g2, g3⟩ := g
        exact Lg.bi (b := 29) (b2 := 5) (x := x) (by decide) (Lg.bi (b := 3) (b2 := 22) (by decide) g1 g2 g3) (g' (by decide)) (Int.le_refl _)
/-- what a symbol of the reference is in the class -/
def PgF (t : Nat → Nat → Nat → Int) (i j : Nat) (c : Int) : Nat → Prop
  | 13 => Lg (fun a => t (sgm a)) UgC BgC 99 26 i j c
  | 14 => Lg (fun a => t (sgm a)) UgC BgC 99 24 i j c
  | 15 => Lg (fun a => t (sgm a)) UgC BgC 99 22 i j c
  | 16 => Lg (fun a => t (sgm a)) UgC BgC 99 21 i j c
  | 17 => Lg (fun a => t (sgm a)) UgC BgC 99 13 i j c
  | 18 => Lg (fun a => t (sgm a)) UgC BgC 99 17 i j c
  | 19 => (i ≤ j ∧ (j : Int) - (i : Int) ≤ c) ∨ Lg (fun a => t (sgm a)) UgC BgC 99 17 i j c
  | 20 => Sg (fun a => t (sgm a)) UgC BgC 99 4 26 i j c
  | 21 => ∃ (k : Nat) (x y : Int), Lg (fun a => t (sgm a)) UgC BgC 99 4 i k x ∧ ((k ≤ j ∧ (j : Int) - (k : Int) ≤ y) ∨ Lg (fun a => t (sgm a)) UgC BgC 99 17 k j y) ∧ x + y ≤ c
  | 22 => Lg (fun a => t (sgm a)) UgC BgC 99 15 i j c
  | 23 => Sg (fun a => t (sgm a)) UgC BgC 99 22 11 i j c
  | 24 => Sg (fun a => t (sgm a)) UgC BgC 99 24 10 i j c
  | 25 => Sg (fun a => t (sgm a)) UgC BgC 99 24 9 i j c
  | 26 => Sg (fun a => t (sgm a)) UgC BgC 99 17 7 i j c
  | 27 => Sg (fun a => t (sgm a)) UgC BgC 99 1 2 i j c
  | 28 => ∃ (k : Nat) (x y : Int), Lg (fun a => t (sgm a)) UgC BgC 99 0 i k x ∧ Sg (fun a => t (sgm a)) UgC BgC 99 1 2 k j y ∧ x + y ≤ c
  | 29 => ∀ (m : Nat) (z : Int), Lg (fun a => t (sgm a)) UgC BgC 99 3 j m z → Lg (fun a => t (sgm a)) UgC BgC 99 31 i m (c + z)
  | 30 => Lg (fun a => t (sgm a)) UgC BgC 99 31 i j c
  | A => A < 13 → i ≤ j ∧ t A i j ≤ c
theorem rowC : ∀ (d : Nat) {i k k1 j : Nat} {x y z c : Int}, Dg (fun a => t (sgm a)) UgC BgC 99 d 17 i k1 x → Lg (fun a => t (sgm a)) UgC BgC 99 7 k1 k z → Lg (fun a => t (sgm a)) UgC BgC 99 26 k j y → x + z + y ≤ c → Lg (fun a => t (sgm a)) UgC BgC 99 17 i j c := by
  intro d
  induction d with
  | zero => intro i k k1 j x y z c h; exact h.elim
  | succ d ih =>
    intro i k k1 j x y z c h h1 h2 hc
    obtain ⟨-, h | h | ⟨b, m1, m2⟩ | ⟨b, b2, m, u, v, m1, m2, m3, m4⟩⟩ := h
    · omega
    · omega
    · have e : b = 26 := by simpa [UgC] using m1
      subst e
      exact Lg.bi (b := 26) (b2 := 18) (y := z + y) (by decide) ⟨d, x, m2, Int.le_refl _⟩ (Lg.bi (b := 7) (b2 := 17) (by decide) h1 (Lg.un (b := 26) (by decide) h2) (Int.le_refl _)) (by omega)
    · have e : b = 26 ∧ b2 = 18 := by simpa [BgC] using m1
      obtain ⟨rfl, rfl⟩ := e
      cases d with
      | zero => exact m2.elim
      | succ d =>
        obtain ⟨-, h | h | ⟨b, n1, n2⟩ | ⟨b, b2, m', u', v', n1, n2, n3, n4⟩⟩ := m3
        · omega
        · omega
        · exact absurd n1 (by simp [UgC])
        · have e : b = 7 ∧ b2 = 17 := by simpa [BgC] using n1
          obtain ⟨rfl, rfl⟩ := e
          have a2 := ih (c := v' + z + y) n3.up h1 h2 (Int.le_refl _)
          exact Lg.bi (b := 26) (b2 := 18) (y := u' + (v' + z + y)) (by decide) ⟨d + 1, u, m2, Int.le_refl _⟩ (Lg.bi (b := 7) (b2 := 17) (by decide) ⟨d, u', n2, Int.le_refl _⟩ a2 (Int.le_refl _)) (by omega)
theorem gram_rc (he : ∀ i k j : Nat, i ≤ k → k ≤ j → t 2 i j ≤ (k : Int) - (i : Int) + t 2 k j) : ∀ (d : Nat) {A i j : Nat} {c : Int}, Dg t UgF BgF 19 d A i j c → PgF t i j c A := by
  have tm : ∀ (a : Nat) {i j : Nat} {c : Int}, a < 13 → (i ≤ j ∧ t (sgm a) i j ≤ c) → Lg (fun a => t (sgm a)) UgC BgC 99 a i j c := fun a _ _ _ h1 h2 => Lg.tm h1 h2.1 h2.2
  intro d
  induction d with
  | zero => intro A i j c h; exact h.elim
  | succ d ih =>
    intro A i j c h
    obtain ⟨hij, h | h | ⟨b, m1, m2⟩ | ⟨b, b2, k, x, y, m1, m2, m3, rfl⟩⟩ := h
    · obtain ⟨h1, rfl⟩ := h
      have key : i ≤ j ∧ t A i j ≤ t A i j := ⟨hij, Int.le_refl _⟩
      rcases A with _ | _ | _ | _ | _ | _ | _ | _ | _ | _ | _ | _ | _ | A
      all_goals first | exact fun _ => key | omega
    · obtain ⟨rfl, rfl⟩ := h
      exact Or.inl ⟨hij, Int.le_refl _⟩
    · have g := ih m2
      simp only [UgF, List.mem_cons, Prod.mk.injEq, List.not_mem_nil, or_false] at m1
      rcases m1 with ⟨rfl, rfl⟩ | ⟨rfl, rfl⟩ | ⟨rfl, rfl⟩ | ⟨rfl, rfl⟩ | ⟨rfl, rfl⟩ | ⟨rfl, rfl⟩ | ⟨rfl, rfl⟩
      · exact Lg.un (b := 8) (by decide) (tm 8 (by decide) (g (by decide)))
      · exact Lg.un (b := 13) (by decide) g
      · exact Lg.un (b := 21) (by decide) g
      · exact Lg.un (b := 22) (by decide) g
      · exact Lg.un (b := 24) (by decide) g
      · exact Lg.un (b := 26) (by decide) g
      · exact Or.inr g
    · have g := ih m2
      have g' := ih m3
      simp only [BgF, List.mem_cons, Prod.mk.injEq, List.not_mem_nil, or_false] at m1
      rcases m1 with ⟨rfl, rfl, rfl⟩ | ⟨rfl, rfl, rfl⟩ | ⟨rfl, rfl, rfl⟩ | ⟨rfl, rfl, rfl⟩ | ⟨rfl, rfl, rfl⟩ | ⟨rfl, rfl, rfl⟩ | ⟨rfl, rfl, rfl⟩ | ⟨rfl, rfl, rfl⟩ | ⟨rfl, rfl, rfl⟩ | ⟨rfl, rfl, rfl⟩ | ⟨rfl, rfl, rfl⟩ | ⟨rfl, rfl, rfl⟩ | ⟨rfl, rfl, rfl⟩ | ⟨rfl, rfl, rfl⟩ | ⟨rfl, rfl, rfl⟩ | ⟨rfl, rfl, rfl⟩ | ⟨rfl, rfl, rfl⟩ | ⟨rfl, rfl, rfl⟩ | ⟨rfl, rfl, rfl⟩ | ⟨rfl, rfl, rfl⟩ | ⟨rfl, rfl, rfl⟩
      · exact ⟨k, x, y, tm 4 (by decide) (g (by decide)), g', Int.le_refl _⟩
      · exact ⟨k, x, y, tm 4 (by decide) (g (by decide)), g', Int.le_refl _⟩
      · obtain ⟨k2, x2, y2, g1, g2, g3⟩ := g
        have g4 := g' (by decide)
        rcases g2 with ⟨g2, g5⟩ | g2
        · have h1 := he k2 k j g2 g4.1
          exact Lg.bi (b := 4) (b2 := 16) (y := y2 + y) (by decide) g1 (Lg.un (b := 5) (by decide) (tm 5 (by decide) ⟨by omega, (show t 2 k2 j ≤ y2 + y by omega)⟩)) (by omega)
        · exact Lg.bi (b := 4) (b2 := 16) (y := y2 + y) (by decide) g1 (Lg.bi (b := 17) (b2 := 5) (by decide) g2 (tm 5 (by decide) g4) (Int.le_refl _)) (by omega)
      · exact Lg.un (b := 14) (by decide) (Lg.bi (b := 1) (b2 := 15) (by decide) (tm 1 (by decide) (g (by decide))) g' (Int.le_refl _))
      · obtain ⟨k2, x2, y2, g1, g2, g3⟩ := g
        exact Lg.un (b := 19) (by decide) (Lg.bi (b := 4) (b2 := 20) (y := y2 + y) (by decide) g1 (Lg.bi (b := 26) (b2 := 5) (by decide) g2 (tm 5 (by decide) (g' (by decide))) (Int.le_refl _)) (by omega))
      · exact Lg.bi (b := 12) (b2 := 13) (by decide) (tm 12 (by decide) (g (by decide))) g' (Int.le_refl _)
      · exact ⟨k, x, y, g, tm 11 (by decide) (g' (by decide)), Int.le_refl _⟩
      · obtain ⟨k2, x2, y2, g1, g2, g3⟩ := g
        exact Lg.bi (b := 22) (b2 := 23) (y := y2 + y) (by decide) g1 (Lg.bi (b := 11) (b2 := 21) (by decide) g2 g' (Int.le_refl _)) (by omega)
      · exact ⟨k, x, y, g, tm 10 (by decide) (g' (by decide)), Int.le_refl _⟩
      · obtain ⟨k2, x2, y2, g1, g2, g3⟩ := g
        exact Lg.bi (b := 24) (b2 := 25) (y := y2 + y) (by decide) g1 (Lg.bi (b := 10) (b2 := 22) (by decide) g2 g' (Int.le_refl _)) (by omega)
      · exact ⟨k, x, y, g, tm 9 (by decide) (g' (by decide)), Int.le_refl _⟩
      · obtain ⟨k2, x2, y2, g1, g2, g3⟩ := g
        exact Lg.bi (b := 24) (b2 := 27) (y := y2 + y) (by decide) g1 (Lg.bi (b := 9) (b2 := 24) (by decide) g2 g' (Int.le_refl _)) (by omega)
      · exact ⟨k, x, y, g, tm 7 (by decide) (g' (by decide)), Int.le_refl _⟩
      · obtain ⟨k2, x2, y2, g1, g2, g3⟩ := g
        obtain ⟨d2, x3, g4, g5⟩ := g1
        exact rowC d2 g4 g2 g' (by omega)
      · exact ⟨k, x, y, tm 1 (by decide) (g (by decide)), tm 2 (by decide) (g' (by decide)), Int.le_refl _⟩
      · exact ⟨k, x, y, tm 0 (by decide) (g (by decide)), g', Int.le_refl _⟩
      · intro m z hz
        obtain ⟨k2, x2, y2, g1, g2, g3⟩ := g
        exact Lg.un (b := 30) (by decide) (Lg.bi (b := 1) (b2 := 29) (y := y2 + (y + z)) (by decide) g1 (Lg.bi (b := 2) (b2 := 28) (by decide) g2 (Lg.bi (b := 26) (b2 := 3) (by decide) g' hz (Int.le_refl _)) (Int.le_refl _)) (by omega))
      · intro m z hz
        obtain ⟨k1, x1, y1, g0, ⟨k2, x2, y2, g1, g2, g3⟩, g4⟩ := g
        exact Lg.bi (b := 0) (b2 := 30) (y := x2 + (y2 + (y + z))) (by decide) g0 (Lg.bi (b := 1) (b2 := 29) (by decide) g1 (Lg.bi (b := 2) (b2 := 28) (by decide) g2 (Lg.bi (b := 26) (b2 := 3) (by decide) g' hz (Int.le_refl _)) (Int.le_refl _)) (Int.le_refl _)) (by omega)
      · intro m z hz
        exact Lg.bi (b := 6) (b2 := 28) (y := y + z) (by decide) (tm 6 (by decide) (g (by decide))) (Lg.bi (b := 26) (b2 := 3) (by decide) g' hz (Int.le_refl _)) (by omega)
      · intro m z hz
        exact Lg.bi (b := 14) (b2 := 3) (x := x + y) (by decide) (Lg.bi (b := 1) (b2 := 15) (by decide) (tm 1 (by decide) (g (by decide))) g' (Int.le_refl _)) hz (by omega)
      · exact g j y (tm 3 (by decide) (g' (by decide)))
end Mh0
