/-! READING, OF THE REFERENCE: statements and blocks: what their nodes stand for -/
/-- the statements of a block b: how many, nodes, where their words begin, the first, the last, words -/
def SLq (P : Nat → Nat → Nat → Nat → List Int → Prop) (F : MF) (b : Nat) : Nat → Nat → Nat → Nat → Int → Int → List Int → Prop
  | 0 => fun lo hi _ x y W => lo ≤ hi ∧ x = -1 ∧ y = -1 ∧ W = []
  | k + 1 => fun lo hi c x y W => ∃ (m v : Nat) (x' y' : Int) (W1 W2 : List Int), SLq P F b k lo m c x' y' W1 ∧ y = (v : Int) ∧ P m hi (c + W1.length) v W2 ∧ F 229 v = (b : Int) ∧ W = W1 ++ W2 ∧ (if k = 0 then x = (v : Int) else x = x' ∧ F 227 y'.toNat = (v : Int))
/-- a block: nodes, where its words begin, its node, words -/
def Bk (P : Nat → Nat → Nat → Nat → List Int → Prop) (F : MF) (lo hi c b : Nat) (W : List Int) : Prop :=
  F 221 b = 3 ∧ lo ≤ b ∧ ∃ (k t e cl : Nat) (y : Int) (Ws : List Int), F 222 b = (t : Int) ∧ SLq P F b k (b + 1) hi (c + 1) (F 224 b) y Ws ∧ (y ≠ -1 → F 227 y.toNat = -1) ∧ cl ≤ 1 ∧ F 228 b = (if cl = 1 then (e : Int) else -1) ∧ W = mk 3 t 0 :: (Ws ++ [mk 4 e cl])
/-- an expr of a statement -/
def Xp (F : MF) (K : List Int) (lo hi : Nat) (u : Int) (W : List Int) : Prop := ∃ (v lo' hi' : Nat) (f : Int), u = (v : Int) ∧ lo ≤ lo' ∧ hi' ≤ hi ∧ Rpe F K lo' hi' v W f ∧ F 223 v = f ∧ F 227 v = -1
def Sm (F : MF) (K : List Int) : Nat → Nat → Nat → Nat → Nat → List Int → Prop
  | 0 => fun _ _ _ _ _ => False
  | d + 1 => fun lo hi c v W =>
    (∃ (o kd a p e : Nat) (We : List Int), ((kd = 5 ∧ o = 7) ∨ (kd = 6 ∧ o = 8) ∨ (kd = 7 ∧ o = 9) ∨ (kd = 9 ∧ o = 10)) ∧ F 221 v = (kd : Int) ∧ lo ≤ v ∧ v < hi ∧ F 223 v = (a : Int) ∧ F 222 v = (p : Int) ∧ Xp F K lo v (F 224 v) We ∧ W = mk 6 a 0 :: (We ++ [mk o p e]) ∧ p < 256) ∨
    (∃ a : Nat, F 221 v = 12 ∧ lo ≤ v ∧ v < hi ∧ F 222 v = (a : Int) ∧ W = [mk 13 a 0]) ∨
    (∃ (a : Nat) (W' : List Int), Bk (Sm F K d) F lo hi (c + 1) v W' ∧ F 226 v = -1 ∧ W = mk 6 a 0 :: W' ∧ F 222 v = (a : Int)) ∨
    (F 221 v = 10 ∧ lo ≤ v ∧ ∃ (a b m : Nat) (We W1 : List Int), F 222 v = (a : Int) ∧ (F 223 v = (a : Int) ∧ a < 256) ∧ Xp F K lo v (F 224 v) We ∧ F 225 v = (b : Int) ∧ F 226 b = (v : Int) ∧ F 229 b = F 229 v ∧ Bk (Sm F K d) F (v + 1) m (c + We.length + 2) b W1 ∧ b < m ∧
      ((F 226 v = -1 ∧ m ≤ hi ∧ W = mk 6 a 0 :: (We ++ mk 11 a (c + We.length + 2 + W1.length) :: W1)) ∨
       (∃ (b2 p : Nat) (W2 : List Int), (F 226 v = (b2 : Int) ∧ p < 256) ∧ F 226 b2 = (v : Int) ∧ F 229 b2 = F 229 v ∧ Bk (Sm F K d) F m hi (c + We.length + 3 + W1.length) b2 W2 ∧ b2 < hi ∧
         W = mk 6 a 0 :: (We ++ mk 11 a (c + We.length + 3 + W1.length) :: (W1 ++ mk 12 p (c + We.length + 3 + W1.length + W2.length) :: W2)))))
/-- nodes stand as they were, but for the next one of one of them -/
def Ags (F F' : MF) (lo hi : Nat) (v : Int) : Prop := ∀ c i, 221 ≤ c → c ≤ 229 → lo ≤ i → i < hi → ¬ (c = 227 ∧ (i : Int) = v) → F' c i = F c i
section M96
variable {F F' : MF} {K : List Int} {b lo hi c v : Nat} {W : List Int}
theorem Ags.sub {lo' hi' : Nat} {v v' : Int} (h : Ags F F' lo hi v) (h1 : lo ≤ lo') (h2 : hi' ≤ hi) (h3 : ∀ i : Nat, lo' ≤ i → i < hi' → (i : Int) = v → (i : Int) = v') : Ags F F' lo' hi' v' := fun c i x y a d n => h c i x y (by omega) (by omega) (fun e => n ⟨e.1, h3 i a d e.2⟩)
theorem Agf.ags {N : Nat} {v : Int} (h : Agf F F' N) (hN : hi ≤ N) : Ags F F' lo hi v := fun c i x y _ d _ => h c i x y (by omega)
theorem SLq.mo {P Q : Nat → Nat → Nat → Nat → List Int → Prop} (hPQ : ∀ a b c v W, P a b c v W → Q a b c v W) : ∀ (k lo hi c : Nat) (x y : Int) (W : List Int), SLq P F b k lo hi c x y W → SLq Q F b k lo hi c x y W := by
  intro k
  induction k with
  | zero => intro lo hi c x y W h; exact h
  | succ k ih =>
    rintro lo hi c x y W ⟨m, v, x', y', W1, W2, h1, h2, h3, h4, h5, h6⟩
    exact ⟨m, v, x', y', W1, W2, ih _ _ _ _ _ _ h1, h2, hPQ _ _ _ _ _ h3, h4, h5, h6⟩
theorem Bk.mo {P Q : Nat → Nat → Nat → Nat → List Int → Prop} (hPQ : ∀ a b c v W, P a b c v W → Q a b c v W) (h : Bk P F lo hi c b W) : Bk Q F lo hi c b W := by
  obtain ⟨h1, h2, k, t, e, cl, y, Ws, h3, h4, h5⟩ := h
  exact ⟨h1, h2, k, t, e, cl, y, Ws, h3, SLq.mo hPQ _ _ _ _ _ _ _ h4, h5⟩
theorem Sm.mo1 : ∀ (d lo hi c v : Nat) (W : List Int), Sm F K d lo hi c v W → Sm F K (d + 1) lo hi c v W := by
  intro d
  induction d with
  | zero => intro lo hi c v W h; exact absurd h (fun h => h)
  | succ d ih =>
    intro lo hi c v W h
    rcases h with h | h | ⟨a, W', h1, h2, h3⟩ | ⟨h1, h2, a, b, m, We, W1, h3, h4, h5, h6, h7, h8, h9, h10, h11⟩
    · exact Or.inl h
    · exact Or.inr (Or.inl h)
    · exact Or.inr (Or.inr (Or.inl ⟨a, W', h1.mo ih, h2, h3⟩))
    · refine Or.inr (Or.inr (Or.inr ⟨h1, h2, a, b, m, We, W1, h3, h4, h5, h6, h7, h8, h9.mo ih, h10, ?_⟩))
      rcases h11 with h11 | ⟨b2, p, W2, k1, k2, k3, k4, k5⟩
      · exact Or.inl h11
      · exact Or.inr ⟨b2, p, W2, k1, k2, k3, k4.mo ih, k5⟩
theorem Sm.mo {d e : Nat} (h : Sm F K d lo hi c v W) (he : d ≤ e) : Sm F K e lo hi c v W := by
  obtain ⟨j, rfl⟩ : ∃ j, e = d + j := ⟨e - d, by omega⟩
  clear he
  induction j with
  | zero => exact h
  | succ j ih => exact Sm.mo1 _ _ _ _ _ _ ih
theorem SLq.rng {P : Nat → Nat → Nat → Nat → List Int → Prop} (hP : ∀ a b c v W, P a b c v W → a ≤ v ∧ v < b) : ∀ (k lo hi c : Nat) (x y : Int) (W : List Int), SLq P F b k lo hi c x y W →
    lo ≤ hi ∧ (k = 0 ∧ y = -1 ∧ x = -1 ∨ 0 < k ∧ (lo : Int) ≤ y ∧ y < (hi : Int) ∧ (lo : Int) ≤ x ∧ x < (hi : Int)) := by
  intro k
  induction k with
  | zero => rintro lo hi c x y W ⟨h1, h2, h3, h4⟩; exact ⟨h1, Or.inl ⟨rfl, h3, h2⟩⟩
  | succ k ih =>
    rintro lo hi c x y W ⟨m, v, x', y', W1, W2, h1, h2, h3, h4, h5, h6⟩
    have a1 := ih _ _ _ _ _ _ h1
    have a2 := hP _ _ _ _ _ h3
    refine ⟨by omega, Or.inr ⟨Nat.succ_pos k, by omega, by omega, ?_⟩⟩
    by_cases e : k = 0
    · rw [if_pos e] at h6
      omega
    · rw [if_neg e] at h6
      omega
theorem Bk.rng {P : Nat → Nat → Nat → Nat → List Int → Prop} (hP : ∀ a b c v W, P a b c v W → a ≤ v ∧ v < b) (h : Bk P F lo hi c b W) : lo ≤ b ∧ b < hi := by
  obtain ⟨h1, h2, k, t, e, cl, y, Ws, h3, h4, h5⟩ := h
  have := (SLq.rng hP _ _ _ _ _ _ _ h4).1
  omega
theorem Xp.hi_le {hi' : Nat} {u : Int} (h : Xp F K lo hi u W) (k : hi ≤ hi') : Xp F K lo hi' u W := by
  obtain ⟨v, l1, h1, f, e1, e2, e3, e4⟩ := h
  exact ⟨v, l1, h1, f, e1, e2, by omega, e4⟩
theorem Xp.lo_le {lo' : Nat} {u : Int} (h : Xp F K lo hi u W) (k : lo' ≤ lo) : Xp F K lo' hi u W := by
  obtain ⟨v, l1, h1, f, e1, e2, e3, e4⟩ := h
  exact ⟨v, l1, h1, f, e1, by omega, e3, e4⟩
theorem Sm.rng : ∀ (d lo hi c v : Nat) (W : List Int), Sm F K d lo hi c v W → lo ≤ v ∧ v < hi := by
  intro d
  induction d with
  | zero => intro lo hi c v W h; exact absurd h (fun h => h)
  | succ d ih =>
    intro lo hi c v W h
    rcases h with ⟨o, kd, a, p, e, We, h1, h2, h3, h4, h5⟩ | ⟨a, h1, h2, h3, h4⟩ | ⟨a, W', h1, h2, h3⟩ | ⟨h1, h2, a, b, m, We, W1, h3, h4, h5, h6, h7, h8, h9, h10, h11⟩
    · exact ⟨h3, h4⟩
    · exact ⟨h2, h3⟩
    · exact h1.rng ih
    · have g := h9.rng ih
      rcases h11 with ⟨k1, k2, k3⟩ | ⟨b2, p, W2, k1, k2, k3, k4, k5, k6⟩
      · exact ⟨h2, by omega⟩
      · have g2 := k4.rng ih
        exact ⟨h2, by omega⟩
theorem SLq.lo_le {P : Nat → Nat → Nat → Nat → List Int → Prop} (hP : ∀ a a' b c v W, P a b c v W → a' ≤ a → P a' b c v W) : ∀ (k lo hi c : Nat) (x y : Int) (W : List Int) (lo' : Nat), SLq P F b k lo hi c x y W → lo' ≤ lo → SLq P F b k lo' hi c x y W := by
  intro k
  induction k with
  | zero => rintro lo hi c x y W lo' ⟨h1, h2⟩ hl; exact ⟨by omega, h2⟩
  | succ k ih =>
    rintro lo hi c x y W lo' ⟨m, v, x', y', W1, W2, h1, h2, h3, h4, h5, h6⟩ hl
    exact ⟨m, v, x', y', W1, W2, ih _ _ _ _ _ _ _ h1 hl, h2, h3, h4, h5, h6⟩
theorem SLq.hi_le {P : Nat → Nat → Nat → Nat → List Int → Prop} (hP : ∀ a b b' c v W, P a b c v W → b ≤ b' → P a b' c v W) {k lo hi hi' c : Nat} {x y : Int} {W : List Int} (h : SLq P F b k lo hi c x y W) (hl : hi ≤ hi') : SLq P F b k lo hi' c x y W := by
  cases k with
  | zero => exact ⟨by have := h.1; omega, h.2⟩
  | succ k =>
    obtain ⟨m, v, x', y', W1, W2, h1, h2, h3, h4, h5, h6⟩ := h
    exact ⟨m, v, x', y', W1, W2, h1, h2, hP _ _ _ _ _ _ h3 hl, h4, h5, h6⟩
theorem Bk.lo_le {P : Nat → Nat → Nat → Nat → List Int → Prop} {lo' : Nat} (h : Bk P F lo hi c b W) (hl : lo' ≤ lo) : Bk P F lo' hi c b W := ⟨h.1, by have := h.2.1; omega, h.2.2⟩
theorem Bk.hi_le {P : Nat → Nat → Nat → Nat → List Int → Prop} {hi' : Nat} (hP : ∀ a b b' c v W, P a b c v W → b ≤ b' → P a b' c v W) (h : Bk P F lo hi c b W) (hl : hi ≤ hi') : Bk P F lo hi' c b W := by
  obtain ⟨h1, h2, k, t, e, cl, y, Ws, h3, h4, h5⟩ := h
  exact ⟨h1, h2, k, t, e, cl, y, Ws, h3, h4.hi_le hP hl, h5⟩
theorem Sm.hi_le : ∀ (d lo hi hi' c v : Nat) (W : List Int), Sm F K d lo hi c v W → hi ≤ hi' → Sm F K d lo hi' c v W := by
  intro d
  induction d with
  | zero => intro lo hi hi' c v W h; exact absurd h (fun h => h)
  | succ d ih =>
    intro lo hi hi' c v W h hl
    rcases h with ⟨o, kd, a, p, e, We, h1, h2, h3, h4, h5⟩ | ⟨a, h1, h2, h3, h4⟩ | ⟨a, W', h1, h2, h3⟩ | ⟨h1, h2, a, b, m, We, W1, h3, h4, h5, h6, h7, h8, h9, h10, h11⟩
    · exact Or.inl ⟨o, kd, a, p, e, We, h1, h2, h3, by omega, h5⟩
    · exact Or.inr (Or.inl ⟨a, h1, h2, by omega, h4⟩)
    · exact Or.inr (Or.inr (Or.inl ⟨a, W', h1.hi_le (fun a b b' c v W k l => ih a b b' c v W k l) hl, h2, h3⟩))
    · refine Or.inr (Or.inr (Or.inr ⟨h1, h2, a, b, m, We, W1, h3, h4, h5, h6, h7, h8, h9, h10, ?_⟩))
      rcases h11 with ⟨k1, k2, k3⟩ | ⟨b2, p, W2, k1, k2, k3, k4, k5, k6⟩
      · exact Or.inl ⟨k1, by omega, k3⟩
      · exact Or.inr ⟨b2, p, W2, k1, k2, k3, k4.hi_le (fun a b b' c v W k l => ih a b b' c v W k l) hl, by omega, k6⟩
theorem Xp.cong {u : Int} (h : Xp F K lo hi u W) (k : Ags F F' lo hi (-1)) : Xp F' K lo hi u W := by
  obtain ⟨v, l1, h1, f, e1, e2, e3, e4, e5, e6⟩ := h
  have r := e4.rng
  have q : ∀ c, 221 ≤ c → c ≤ 229 → ∀ i, l1 ≤ i → i < h1 → F' c i = F c i := fun c x y i a b => k c i x y (by omega) (by omega) (by omega)
  exact ⟨v, l1, h1, f, e1, e2, e3, e4.cong (fun i a b => ⟨q 221 (by decide) (by decide) i a b, q 222 (by decide) (by decide) i a b, q 224 (by decide) (by decide) i a b, q 225 (by decide) (by decide) i a b, fun _ => ⟨q 223 (by decide) (by decide) i a b, q 227 (by decide) (by decide) i a b⟩⟩), (q 223 (by decide) (by decide) v (by omega) (by omega)).trans e5, (q 227 (by decide) (by decide) v (by omega) (by omega)).trans e6⟩
theorem SLq.cong {P Q : Nat → Nat → Nat → Nat → List Int → Prop} (hP : ∀ a b c v W, P a b c v W → a ≤ v ∧ v < b) (hPQ : ∀ a b c v W, P a b c v W → Ags F F' a b (v : Int) → Q a b c v W) :
    ∀ (k lo hi c : Nat) (x y : Int) (W : List Int), SLq P F b k lo hi c x y W → Ags F F' lo hi y → SLq Q F' b k lo hi c x y W := by
  intro k
  induction k with
  | zero => intro lo hi c x y W h _; exact h
  | succ k ih =>
    rintro lo hi c x y W ⟨m, v, x', y', W1, W2, h1, h2, h3, h4, h5, h6⟩ hA
    have a1 := SLq.rng hP _ _ _ _ _ _ _ h1
    have a2 := hP _ _ _ _ _ h3
    refine ⟨m, v, x', y', W1, W2, ih _ _ _ _ _ _ h1 (hA.sub (Nat.le_refl _) (by omega) (fun i _ _ e => by omega)), h2, hPQ _ _ _ _ _ h3 (hA.sub (by omega) (Nat.le_refl _) (fun i _ _ e => by omega)), (hA 229 v (by decide) (by decide) (by omega) (by omega) (by omega)).trans h4, h5, ?_⟩
    by_cases e : k = 0
    · rw [if_pos e] at h6 ⊢
      exact h6
    · rw [if_neg e] at h6 ⊢
      exact ⟨h6.1, (hA 227 y'.toNat (by decide) (by decide) (by omega) (by omega) (by omega)).trans h6.2⟩
theorem Bk.cong {P Q : Nat → Nat → Nat → Nat → List Int → Prop} (hP : ∀ a b c v W, P a b c v W → a ≤ v ∧ v < b) (hPQ : ∀ a b c v W, P a b c v W → Ags F F' a b (v : Int) → Q a b c v W) (h : Bk P F lo hi c b W) (hA : Ags F F' lo hi (b : Int)) : Bk Q F' lo hi c b W := by
  have r := h.rng hP
  obtain ⟨h1, h2, k, t, e, cl, y, Ws, h3, h4, h5, h6, h7, h8⟩ := h
  have g := SLq.rng hP _ _ _ _ _ _ _ h4
  have q : ∀ c, 221 ≤ c → c ≤ 229 → c ≠ 227 → F' c b = F c b := fun c x y z => hA c b x y r.1 r.2 (by omega)
  refine ⟨(q 221 (by decide) (by decide) (by decide)).trans h1, h2, k, t, e, cl, y, Ws, (q 222 (by decide) (by decide) (by decide)).trans h3, ?_, fun hy => ?_, h6, (q 228 (by decide) (by decide) (by decide)).trans h7, h8⟩
  · rw [q 224 (by decide) (by decide) (by decide)]
    exact SLq.cong hP hPQ _ _ _ _ _ _ _ h4 (hA.sub (by omega) (Nat.le_refl _) (fun i _ _ e => by omega))
  · rw [hA 227 y.toNat (by decide) (by decide) (by omega) (by omega) (by omega)]
    exact h5 hy
theorem Sm.cong : ∀ (d lo hi c v : Nat) (W : List Int), Sm F K d lo hi c v W → Ags F F' lo hi (v : Int) → Sm F' K d lo hi c v W := by
  intro d
  induction d with
  | zero => intro lo hi c v W h; exact absurd h (fun h => h)
  | succ d ih =>
    intro lo hi c v W h hA
    have r := Sm.rng _ _ _ _ _ _ h
    have q : ∀ c, 221 ≤ c → c ≤ 229 → c ≠ 227 → F' c v = F c v := fun c x y z => hA c v x y r.1 r.2 (by omega)
    have q1 := q 221 (by decide) (by decide) (by decide)
    have q2 := q 222 (by decide) (by decide) (by decide)
    have q3 := q 223 (by decide) (by decide) (by decide)
    have q4 := q 224 (by decide) (by decide) (by decide)
    have q5 := q 225 (by decide) (by decide) (by decide)
    have q6 := q 226 (by decide) (by decide) (by decide)
    have q9 := q 229 (by decide) (by decide) (by decide)
    rcases h with ⟨o, kd, a, p, e, We, h1, h2, h3, h4, h5, h6, h7, h8⟩ | ⟨a, h1, h2, h3, h4, h5⟩ | ⟨a, W', h1, h2, h3⟩ | ⟨h1, h2, a, b, m, We, W1, h3, h4, h5, h6, h7, h8, h9, h10, h11⟩
    · refine Or.inl ⟨o, kd, a, p, e, We, h1, q1.trans h2, h3, h4, q3.trans h5, q2.trans h6, ?_, h8⟩
      rw [q4]
      exact h7.cong (hA.sub (Nat.le_refl _) (by omega) (fun i _ _ e => by omega))
    · exact Or.inr (Or.inl ⟨a, q1.trans h1, h2, h3, q2.trans h4, h5⟩)
    · exact Or.inr (Or.inr (Or.inl ⟨a, W', h1.cong (Sm.rng d) ih hA, q6.trans h2, h3.1, q2.trans h3.2⟩))
    · have g := h9.rng (Sm.rng d)
      have w : m ≤ hi := by
        rcases h11 with ⟨-, k2, -⟩ | ⟨b2, p, W2, -, -, -, k4, -, -⟩
        · exact k2
        · have := k4.rng (Sm.rng d)
          omega
      have hb : ∀ c, 221 ≤ c → c ≤ 229 → c ≠ 227 → F' c b = F c b := fun c x y z => hA c b x y (by omega) (by omega) (by omega)
      refine Or.inr (Or.inr (Or.inr ⟨q1.trans h1, h2, a, b, m, We, W1, q2.trans h3, ⟨q3.trans h4.1, h4.2⟩, ?_, q5.trans h6, (hb 226 (by decide) (by decide) (by decide)).trans h7, ?_, h9.cong (Sm.rng d) ih (hA.sub (by omega) w (fun i _ _ e => by omega)), h10, ?_⟩))
      · rw [q4]
        exact h5.cong (hA.sub (Nat.le_refl _) (by omega) (fun i _ _ e => by omega))
      · rw [hb 229 (by decide) (by decide) (by decide), q9]
        exact h8
      · rcases h11 with ⟨k1, k2⟩ | ⟨b2, p, W2, k1, k2, k3, k4, k5, k6⟩
        · exact Or.inl ⟨q6.trans k1, k2⟩
        · have g2 := k4.rng (Sm.rng d)
          have hb2 : ∀ c, 221 ≤ c → c ≤ 229 → c ≠ 227 → F' c b2 = F c b2 := fun c x y z => hA c b2 x y (by omega) (by omega) (by omega)
          refine Or.inr ⟨b2, p, W2, ⟨q6.trans k1.1, k1.2⟩, (hb2 226 (by decide) (by decide) (by decide)).trans k2, ?_, k4.cong (Sm.rng d) ih (hA.sub (by omega) (Nat.le_refl _) (fun i _ _ e => by omega)), k5, k6⟩
          rw [hb2 229 (by decide) (by decide) (by decide), q9]
          exact k3
end M96
/-- some depth will do -/
def Sme (F : MF) (K : List Int) (lo hi c v : Nat) (W : List Int) : Prop := ∃ d, Sm F K d lo hi c v W
section M96b
variable {F F' : MF} {K : List Int} {b lo hi c v : Nat} {W : List Int}
theorem Sme.rng : ∀ a b c v W, Sme F K a b c v W → a ≤ v ∧ v < b := fun _ _ _ _ _ ⟨_, h⟩ => Sm.rng _ _ _ _ _ _ h
theorem Sme.cong : ∀ a b c v W, Sme F K a b c v W → Ags F F' a b (v : Int) → Sme F' K a b c v W := fun _ _ _ _ _ ⟨d, h⟩ k => ⟨d, Sm.cong _ _ _ _ _ _ h k⟩
theorem Sme.wid : ∀ a b b' c v W, Sme F K a b c v W → b ≤ b' → Sme F K a b' c v W := fun _ _ _ _ _ _ ⟨d, h⟩ k => ⟨d, Sm.hi_le _ _ _ _ _ _ _ h k⟩
theorem SLq.un : ∀ (k lo hi c : Nat) (x y : Int) (W : List Int), SLq (Sme F K) F b k lo hi c x y W → ∃ d, SLq (Sm F K d) F b k lo hi c x y W := by
  intro k
  induction k with
  | zero => intro lo hi c x y W h; exact ⟨0, h⟩
  | succ k ih =>
    rintro lo hi c x y W ⟨m, v, x', y', W1, W2, h1, h2, ⟨e, h3⟩, h4, h5, h6⟩
    obtain ⟨d, h1⟩ := ih _ _ _ _ _ _ h1
    exact ⟨d + e, m, v, x', y', W1, W2, SLq.mo (fun _ _ _ _ _ h => Sm.mo h (by omega)) _ _ _ _ _ _ _ h1, h2, h3.mo (by omega), h4, h5, h6⟩
theorem Bk.un (h : Bk (Sme F K) F lo hi c b W) : ∃ d, Bk (Sm F K d) F lo hi c b W := by
  obtain ⟨h1, h2, k, t, e, cl, y, Ws, h3, h4, h5⟩ := h
  obtain ⟨d, h4⟩ := SLq.un _ _ _ _ _ _ _ h4
  exact ⟨d, h1, h2, k, t, e, cl, y, Ws, h3, h4, h5⟩
theorem Sme.simple {o kd a p e : Nat} {We : List Int} (h : ((kd = 5 ∧ o = 7) ∨ (kd = 6 ∧ o = 8) ∨ (kd = 7 ∧ o = 9) ∨ (kd = 9 ∧ o = 10))) (h1 : F 221 v = (kd : Int)) (h2 : lo ≤ v) (h3 : v < hi) (h4 : F 223 v = (a : Int)) (h5 : F 222 v = (p : Int)) (h6 : Xp F K lo v (F 224 v) We) (h7 : p < 256) : Sme F K lo hi c v (mk 6 a 0 :: (We ++ [mk o p e])) :=
  ⟨1, Or.inl ⟨o, kd, a, p, e, We, h, h1, h2, h3, h4, h5, h6, rfl, h7⟩⟩
theorem Sme.broken {a : Nat} (h1 : F 221 v = 12) (h2 : lo ≤ v) (h3 : v < hi) (h4 : F 222 v = (a : Int)) : Sme F K lo hi c v [mk 13 a 0] := ⟨1, Or.inr (Or.inl ⟨a, h1, h2, h3, h4, rfl⟩)⟩
theorem Sme.block {a : Nat} (h1 : Bk (Sme F K) F lo hi (c + 1) v W) (h2 : F 226 v = -1) (h3 : F 222 v = (a : Int)) : Sme F K lo hi c v (mk 6 a 0 :: W) := by
  obtain ⟨d, h1⟩ := h1.un
  exact ⟨d + 1, Or.inr (Or.inr (Or.inl ⟨a, W, h1, h2, rfl, h3⟩))⟩
theorem Sme.ifs {a b m : Nat} {We W1 : List Int} (h1 : F 221 v = 10) (h2 : lo ≤ v) (h3 : F 222 v = (a : Int)) (h4 : F 223 v = (a : Int)) (h5 : Xp F K lo v (F 224 v) We) (h6 : F 225 v = (b : Int)) (h7 : F 226 b = (v : Int)) (h8 : F 229 b = F 229 v)
    (h9 : Bk (Sme F K) F (v + 1) m (c + We.length + 2) b W1) (h10 : F 226 v = -1) (h11 : m ≤ hi) (ha : a < 256) : Sme F K lo hi c v (mk 6 a 0 :: (We ++ mk 11 a (c + We.length + 2 + W1.length) :: W1)) := by
  have r := h9.rng Sme.rng
  obtain ⟨d, h9⟩ := h9.un
  exact ⟨d + 1, Or.inr (Or.inr (Or.inr ⟨h1, h2, a, b, m, We, W1, h3, ⟨h4, ha⟩, h5, h6, h7, h8, h9, r.2, Or.inl ⟨h10, h11, rfl⟩⟩))⟩
theorem Sme.ifelse {a b m b2 p : Nat} {We W1 W2 : List Int} (h1 : F 221 v = 10) (h2 : lo ≤ v) (h3 : F 222 v = (a : Int)) (h4 : F 223 v = (a : Int)) (h5 : Xp F K lo v (F 224 v) We) (h6 : F 225 v = (b : Int)) (h7 : F 226 b = (v : Int)) (h8 : F 229 b = F 229 v)
    (h9 : Bk (Sme F K) F (v + 1) m (c + We.length + 2) b W1) (k1 : F 226 v = (b2 : Int)) (k2 : F 226 b2 = (v : Int)) (k3 : F 229 b2 = F 229 v) (k4 : Bk (Sme F K) F m hi (c + We.length + 3 + W1.length) b2 W2) (ha : a < 256) (hp : p < 256) :
    Sme F K lo hi c v (mk 6 a 0 :: (We ++ mk 11 a (c + We.length + 3 + W1.length) :: (W1 ++ mk 12 p (c + We.length + 3 + W1.length + W2.length) :: W2))) := by
  have r := h9.rng Sme.rng
  have r2 := k4.rng Sme.rng
  obtain ⟨d, h9⟩ := h9.un
  obtain ⟨e, k4⟩ := k4.un
  exact ⟨d + e + 1, Or.inr (Or.inr (Or.inr ⟨h1, h2, a, b, m, We, W1, h3, ⟨h4, ha⟩, h5, h6, h7, h8, h9.mo (fun _ _ _ _ _ h => Sm.mo h (by omega)), r.2, Or.inr ⟨b2, p, W2, ⟨k1, hp⟩, k2, k3, k4.mo (fun _ _ _ _ _ h => Sm.mo h (by omega)), r2.2, rfl⟩⟩))⟩
end M96b
