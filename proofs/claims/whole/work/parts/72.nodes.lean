/-! READING, OF THE REFERENCE: what a node stands for -/
/-- the args of a call: how many, the nodes they lie in, the first, the last, their words -/
def ArL (P : Nat → Nat → Nat → List Int → Int → Prop) (F : MF) : Nat → Nat → Nat → Int → Int → List Int → Prop
  | 0 => fun lo hi x y W => lo = hi ∧ x = -1 ∧ y = -1 ∧ W = []
  | k + 1 => fun lo hi x y W => ∃ (m v : Nat) (x' y' : Int) (W1 W2 : List Int) (f : Int), ArL P F k lo m x' y' W1 ∧ y = (v : Int) ∧ P m hi v W2 f ∧ F 223 v = f ∧ W = W1 ++ W2 ∧ (if k = 0 then x = (v : Int) else x = x' ∧ F 227 y'.toNat = (v : Int))
/-- how deep, the nodes it lies in, its node, its words, its first token -/
def Rp (F : MF) (K : List Int) : Nat → Nat → Nat → Nat → List Int → Int → Prop
  | 0 => fun _ _ _ _ _ => False
  | d + 1 => fun lo hi v W f =>
    (F 221 v = 13 ∧ lo = v ∧ hi = v + 1 ∧ ∃ p : Nat, F 222 v = (p : Int) ∧ W = [mk 14 p 0] ∧ f = (p : Int) ∧ F 224 v = -1 ∧ F 225 v = -1) ∨
    (F 221 v = 16 ∧ hi = v + 1 ∧ ∃ (u p : Nat) (W1 : List Int) (f1 : Int), F 224 v = (u : Int) ∧ F 223 u = f1 ∧ Rp F K d lo v u W1 f1 ∧ F 222 v = (p : Int) ∧ W = W1 ++ [mk 16 p 0] ∧ f = (p : Int) ∧ F 225 v = -1) ∨
    (F 221 v = 30 ∧ hi = v + 1 ∧ ∃ (u w m p : Nat) (W1 W2 : List Int) (f1 f2 : Int), F 224 v = (u : Int) ∧ F 225 v = (w : Int) ∧ F 223 u = f1 ∧ F 223 w = f2 ∧ Rp F K d lo m u W1 f1 ∧ Rp F K d m v w W2 f2 ∧ F 222 v = kn K p ∧ W = W1 ++ W2 ++ [mk 17 p 0] ∧ f = f1) ∨
    (∃ (o e : Nat) (W1 : List Int) (f1 : Int), Rp F K d lo hi v W1 f1 ∧ W = W1 ++ [mk 18 o e] ∧ f = (o : Int)) ∨
    (F 221 v = 14 ∧ lo = v ∧ ∃ (k p : Nat) (y : Int) (W1 : List Int), F 222 v = (p : Int) ∧ ArL (Rp F K d) F k (v + 1) hi (F 224 v) y W1 ∧ (y ≠ -1 → F 227 y.toNat = -1) ∧ W = W1 ++ [mk 15 p k] ∧ f = (p : Int) ∧ p < 256)
theorem ArL.mo {P Q : Nat → Nat → Nat → List Int → Int → Prop} {F : MF} (hPQ : ∀ a b v W f, P a b v W f → Q a b v W f) : ∀ (k lo hi : Nat) (x y : Int) (W : List Int), ArL P F k lo hi x y W → ArL Q F k lo hi x y W := by
  intro k
  induction k with
  | zero => intro lo hi x y W h; exact h
  | succ k ih =>
    rintro lo hi x y W ⟨m, v, x', y', W1, W2, f, h1, h2, h3, h4, h5, h6⟩
    exact ⟨m, v, x', y', W1, W2, f, ih _ _ _ _ _ h1, h2, hPQ _ _ _ _ _ h3, h4, h5, h6⟩
theorem Rp.mo1 {F : MF} {K : List Int} : ∀ (d lo hi v : Nat) (W : List Int) (f : Int), Rp F K d lo hi v W f → Rp F K (d + 1) lo hi v W f := by
  intro d
  induction d with
  | zero => intro lo hi v W f h; exact absurd h (fun h => h)
  | succ d ih =>
    intro lo hi v W f h
    rcases h with h | ⟨h1, h2, u, p, W1, f1, h3, h4, h5, h6⟩ | ⟨h1, h2, u, w, m, p, W1, W2, f1, f2, h3, h4, h5, h6, h7, h8, h9⟩ | ⟨o, e, W1, f1, h1, h2⟩ | ⟨h1, h2, k, p, y, W1, h3, h4, h5⟩
    · exact Or.inl h
    · exact Or.inr (Or.inl ⟨h1, h2, u, p, W1, f1, h3, h4, ih _ _ _ _ _ h5, h6⟩)
    · exact Or.inr (Or.inr (Or.inl ⟨h1, h2, u, w, m, p, W1, W2, f1, f2, h3, h4, h5, h6, ih _ _ _ _ _ h7, ih _ _ _ _ _ h8, h9⟩))
    · exact Or.inr (Or.inr (Or.inr (Or.inl ⟨o, e, W1, f1, ih _ _ _ _ _ h1, h2⟩)))
    · exact Or.inr (Or.inr (Or.inr (Or.inr ⟨h1, h2, k, p, y, W1, h3, ArL.mo ih _ _ _ _ _ _ h4, h5⟩)))
theorem Rp.mo {F : MF} {K : List Int} {d e lo hi v : Nat} {W : List Int} {f : Int} (h : Rp F K d lo hi v W f) (he : d ≤ e) : Rp F K e lo hi v W f := by
  obtain ⟨j, rfl⟩ : ∃ j, e = d + j := ⟨e - d, by omega⟩
  clear he
  induction j with
  | zero => exact h
  | succ j ih => exact Rp.mo1 _ _ _ _ _ _ ih
theorem ArL.rng {P : Nat → Nat → Nat → List Int → Int → Prop} {F : MF} (hP : ∀ a b v W f, P a b v W f → a ≤ v ∧ v < b) : ∀ (k lo hi : Nat) (x y : Int) (W : List Int), ArL P F k lo hi x y W →
    lo ≤ hi ∧ (k = 0 ∧ y = -1 ∧ x = -1 ∨ 0 < k ∧ (lo : Int) ≤ y ∧ y < (hi : Int) ∧ (lo : Int) ≤ x ∧ x < (hi : Int)) := by
  intro k
  induction k with
  | zero => rintro lo hi x y W ⟨h1, h2, h3, h4⟩; exact ⟨by omega, Or.inl ⟨rfl, h3, h2⟩⟩
  | succ k ih =>
    rintro lo hi x y W ⟨m, v, x', y', W1, W2, f, h1, h2, h3, h4, h5, h6⟩
    have a1 := ih _ _ _ _ _ h1
    have a2 := hP _ _ _ _ _ h3
    refine ⟨by omega, Or.inr ⟨Nat.succ_pos k, by omega, by omega, ?_⟩⟩
    by_cases e : k = 0
    · rw [if_pos e] at h6
      omega
    · rw [if_neg e] at h6
      omega
theorem Rp.rng {F : MF} {K : List Int} : ∀ (d lo hi v : Nat) (W : List Int) (f : Int), Rp F K d lo hi v W f → lo ≤ v ∧ v < hi := by
  intro d
  induction d with
  | zero => intro lo hi v W f h; exact absurd h (fun h => h)
  | succ d ih =>
    intro lo hi v W f h
    rcases h with ⟨h0, h1, h2, h3⟩ | ⟨h1, h2, u, p, W1, f1, h3, h4, h5, h6⟩ | ⟨h1, h2, u, w, m, p, W1, W2, f1, f2, h3, h4, h5, h6, h7, h8, h9⟩ | ⟨o, e, W1, f1, h1, h2⟩ | ⟨h1, h2, k, p, y, W1, h3, h4, h5⟩
    · omega
    · have := ih _ _ _ _ _ h5
      omega
    · have := ih _ _ _ _ _ h7
      have := ih _ _ _ _ _ h8
      omega
    · exact ih _ _ _ _ _ h1
    · have := (ArL.rng ih _ _ _ _ _ _ h4).1
      omega
/-- nodes stand as they were; of one the first token and the next may have changed -/
def Ag (F F' : MF) (lo hi : Nat) (v : Int) : Prop := ∀ i, lo ≤ i → i < hi → F' 221 i = F 221 i ∧ F' 222 i = F 222 i ∧ F' 224 i = F 224 i ∧ F' 225 i = F 225 i ∧ ((i : Int) ≠ v → F' 223 i = F 223 i ∧ F' 227 i = F 227 i)
theorem Ag.sub {F F' : MF} {lo hi lo' hi' : Nat} {v v' : Int} (h : Ag F F' lo hi v) (h1 : lo ≤ lo') (h2 : hi' ≤ hi) (h3 : ∀ i : Nat, lo' ≤ i → i < hi' → (i : Int) = v → (i : Int) = v') : Ag F F' lo' hi' v' := by
  intro i a b
  obtain ⟨k1, k2, k3, k4, k5⟩ := h i (by omega) (by omega)
  exact ⟨k1, k2, k3, k4, fun e => k5 (fun e2 => e (h3 i a b e2))⟩
/-- of the last arg the next may have changed -/
def Agn (F F' : MF) (lo hi : Nat) (y : Int) : Prop := ∀ i, lo ≤ i → i < hi → F' 221 i = F 221 i ∧ F' 222 i = F 222 i ∧ F' 223 i = F 223 i ∧ F' 224 i = F 224 i ∧ F' 225 i = F 225 i ∧ ((i : Int) ≠ y → F' 227 i = F 227 i)
theorem ArL.cong {P : Nat → Nat → Nat → List Int → Int → Prop} {Q : Nat → Nat → Nat → List Int → Int → Prop} {F F' : MF} (hP : ∀ a b v W f, P a b v W f → a ≤ v ∧ v < b) (hPQ : ∀ a b v W f, P a b v W f → Ag F F' a b (v : Int) → Q a b v W f) :
    ∀ (k lo hi : Nat) (x y : Int) (W : List Int), ArL P F k lo hi x y W → Agn F F' lo hi y → ArL Q F' k lo hi x y W := by
  intro k
  induction k with
  | zero => intro lo hi x y W h _; exact h
  | succ k ih =>
    rintro lo hi x y W ⟨m, v, x', y', W1, W2, f, h1, h2, h3, h4, h5, h6⟩ hA
    have a1 := ArL.rng hP _ _ _ _ _ _ h1
    have a2 := hP _ _ _ _ _ h3
    refine ⟨m, v, x', y', W1, W2, f, ih _ _ _ _ _ h1 (fun i b1 b2 => ?_), h2, hPQ _ _ _ _ _ h3 (fun i b1 b2 => ?_), ?_, h5, ?_⟩
    · obtain ⟨k1, k2, k3, k4, k5, k6⟩ := hA i (by omega) (by omega)
      exact ⟨k1, k2, k3, k4, k5, fun _ => k6 (by omega)⟩
    · obtain ⟨k1, k2, k3, k4, k5, k6⟩ := hA i (by omega) (by omega)
      exact ⟨k1, k2, k4, k5, fun e => ⟨k3, k6 (by omega)⟩⟩
    · rw [(hA v (by omega) (by omega)).2.2.1]; exact h4
    · by_cases e : k = 0
      · rw [if_pos e] at h6 ⊢
        exact h6
      · rw [if_neg e] at h6 ⊢
        refine ⟨h6.1, ?_⟩
        rw [(hA y'.toNat (by omega) (by omega)).2.2.2.2.2 (by omega)]
        exact h6.2
theorem Rp.cong {F F' : MF} {K : List Int} : ∀ (d lo hi v : Nat) (W : List Int) (f : Int), Rp F K d lo hi v W f → Ag F F' lo hi (v : Int) → Rp F' K d lo hi v W f := by
  intro d
  induction d with
  | zero => intro lo hi v W f h _; exact absurd h (fun h => h)
  | succ d ih =>
    intro lo hi v W f h hA
    have hr := Rp.rng _ _ _ _ _ _ h
    obtain ⟨r1, r2, r3, r4, -⟩ := hA v hr.1 hr.2
    rcases h with ⟨h0, h1, h2, p, h3, h4⟩ | ⟨h1, h2, u, p, W1, f1, h3, h4, h5, h6, h7⟩ | ⟨h1, h2, u, w, m, p, W1, W2, f1, f2, h3, h4, h5, h6, h7, h8, h9, h10⟩ | ⟨o, e, W1, f1, h1, h2⟩ | ⟨h1, h2, k, p, y, W1, h3, h4, h5, h6⟩
    · exact Or.inl ⟨r1.trans h0, h1, h2, p, r2.trans h3, h4.1, h4.2.1, r3.trans h4.2.2.1, r4.trans h4.2.2.2⟩
    · have g := Rp.rng _ _ _ _ _ _ h5
      exact Or.inr (Or.inl ⟨r1.trans h1, h2, u, p, W1, f1, r3.trans h3, ((hA u (by omega) (by omega)).2.2.2.2 (by omega)).1.trans h4, ih _ _ _ _ _ h5 (hA.sub (by omega) (by omega) (fun i _ _ _ => by omega)), r2.trans h6, h7.1, h7.2.1, r4.trans h7.2.2⟩)
    · have g := Rp.rng _ _ _ _ _ _ h7
      have g2 := Rp.rng _ _ _ _ _ _ h8
      exact Or.inr (Or.inr (Or.inl ⟨r1.trans h1, h2, u, w, m, p, W1, W2, f1, f2, r3.trans h3, r4.trans h4, ((hA u (by omega) (by omega)).2.2.2.2 (by omega)).1.trans h5, ((hA w (by omega) (by omega)).2.2.2.2 (by omega)).1.trans h6, ih _ _ _ _ _ h7 (hA.sub (by omega) (by omega) (fun i _ _ _ => by omega)), ih _ _ _ _ _ h8 (hA.sub (by omega) (by omega) (fun i _ _ _ => by omega)), r2.trans h9, h10⟩))
    · exact Or.inr (Or.inr (Or.inr (Or.inl ⟨o, e, W1, f1, ih _ _ _ _ _ h1 hA, h2⟩)))
    · have g := ArL.rng (Rp.rng (F := F) (K := K) d) _ _ _ _ _ _ h4
      refine Or.inr (Or.inr (Or.inr (Or.inr ⟨r1.trans h1, h2, k, p, y, W1, r2.trans h3, ?_, fun hy => ?_, h6⟩)))
      · rw [r3]
        refine ArL.cong (Rp.rng (F := F) (K := K) d) ih _ _ _ _ _ _ h4 (fun i b1 b2 => ?_)
        obtain ⟨k1, k2, k3, k4, k5⟩ := hA i (by omega) (by omega)
        exact ⟨k1, k2, (k5 (by omega)).1, k3, k4, fun _ => (k5 (by omega)).2⟩
      · rw [((hA y.toNat (by omega) (by omega)).2.2.2.2 (by omega)).2]
        exact h5 hy
