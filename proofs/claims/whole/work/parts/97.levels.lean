/-! READING, OF THE REFERENCE: items, and the blocks that are open -/
/-- the parameters of a function: its node, its NAME, how many -/
def PM (F : MF) (v p n : Nat) : Prop := F 224 v = (if n = 0 then -1 else ((v + 1 : Nat) : Int)) ∧ ∀ i, i < n → F 221 (v + 1 + i) = 31 ∧ F 222 (v + 1 + i) = ((p + 2 + 2 * i : Nat) : Int) ∧ F 227 (v + 1 + i) = (if i + 1 < n then ((v + 2 + i : Nat) : Int) else -1)
/-- the items that are done: how many, nodes up to, the first, the last, words, functions, USE items -/
def IL (F : MF) (K : List Int) (n0 : Nat) : Nat → Nat → Int → Int → List Int → FF → List Int → Prop
  | 0 => fun hi x y C Fn U => n0 ≤ hi ∧ x = -1 ∧ y = -1 ∧ C = [] ∧ Fn = [] ∧ U = []
  | k + 1 => fun hi x y C Fn U => ∃ (m v : Nat) (x' y' : Int) (C' W : List Int) (Fn' : FF) (U' : List Int), IL F K n0 k m x' y' C' Fn' U' ∧ y = (v : Int) ∧ C = C' ++ W ∧ m ≤ v ∧ v < hi ∧ (if k = 0 then x = (v : Int) else x = x' ∧ F 227 y'.toNat = (v : Int)) ∧
    ((∃ p : Nat, F 221 v = 1 ∧ F 222 v = (p : Int) ∧ W = [mk 1 p 0] ∧ Fn = Fn' ∧ U = U' ++ [(p : Int)]) ∨
     (∃ (p n b : Nat) (W1 : List Int), F 221 v = 2 ∧ F 222 v = (p : Int) ∧ PM F v p n ∧ F 225 v = (b : Int) ∧ F 226 b = (v : Int) ∧ F 229 b = -1 ∧ Bk (Sme F K) F (v + 1 + n) hi (C'.length + 1) b W1 ∧ W = mk 2 p n :: (W1 ++ [mk 5 0 0]) ∧ Fn = Fn' ++ [((p : Int), (n : Int), (C'.length : Int), F 228 b)] ∧ U = U'))
/-- a node is linked behind those of a block -/
def Lk (F : MF) (b k : Nat) (x y : Int) (v : Nat) : Prop := if k = 0 then F 224 b = (v : Int) else F 224 b = x ∧ F 227 y.toNat = (v : Int)
/-- a statement that is not done yet, behind those of the block around it -/
def PD (O : Nat → Nat → List Int → Prop) (F : MF) (K : List Int) (i m v : Nat) (C2 : List Int) : Prop :=
  ∃ (b lo : Nat) (C1 : List Int) (k : Nat) (x y : Int) (W : List Int), O b lo C1 ∧ SLq (Sme F K) F b k lo m C1.length x y W ∧ b < m ∧ m ≤ v ∧ F 234 i = (v : Int) ∧ Lk F b k x y v ∧ F 227 v = -1 ∧ F 229 v = (b : Int) ∧ C2 = C1 ++ W
/-- the function that is being read: b its block -/
def OF (F : MF) (K : List Int) (n0 b : Nat) (C : List Int) (Fn : FF) (U : List Int) : Prop :=
  ∃ (k m v p n t : Nat) (x y : Int) (C1 : List Int) (Fn1 : FF), IL F K n0 k m x y C1 Fn1 U ∧ F 201 49 = (v : Int) ∧ (if k = 0 then F 201 48 = (v : Int) else F 201 48 = x ∧ F 227 y.toNat = (v : Int)) ∧ m ≤ v ∧ v + n < b ∧
    F 221 v = 2 ∧ F 222 v = (p : Int) ∧ F 227 v = -1 ∧ PM F v p n ∧ F 225 v = (b : Int) ∧ F 226 b = (v : Int) ∧ F 229 b = -1 ∧ F 222 b = (t : Int) ∧ C = C1 ++ [mk 2 p n, mk 3 t 0] ∧ Fn = Fn1 ++ [((p : Int), (n : Int), (C1.length : Int), -1)]
/-- the blocks that are open, innermost first; b the innermost one -/
def OB (F : MF) (K : List Int) (n0 : Nat) (Fn : FF) (U : List Int) : List (Int × Int) → Nat → Nat → List Int → Prop
  | [] => fun _ _ _ => False
  | (q, st) :: S => fun b lo C => (F 233 S.length = (b : Int) ∧ F 221 b = 3 ∧ F 228 b = -1 ∧ lo = b + 1) ∧
    ((q = 0 ∧ S = [] ∧ F 235 S.length = 0 ∧ OF F K n0 b C Fn U) ∨
     (q = 1 ∧ F 235 S.length = 3 ∧ ∃ (m a : Nat) (C2 : List Int), PD (OB F K n0 Fn U S) F K (S.length - 1) m b C2 ∧ F 226 b = -1 ∧ F 222 b = (a : Int) ∧ C = C2 ++ [mk 6 a 0, mk 3 a 0]) ∨
     (q = 2 ∧ F 235 S.length = 1 ∧ ∃ (m v a t : Nat) (C2 We : List Int), PD (OB F K n0 Fn U S) F K (S.length - 1) m v C2 ∧ F 236 S.length = (v : Int) ∧ F 221 v = 10 ∧ F 222 v = (a : Int) ∧ F 223 v = (a : Int) ∧ Xp F K m v (F 224 v) We ∧ F 225 v = (b : Int) ∧ F 226 v = -1 ∧ F 226 b = (v : Int) ∧ F 229 b = F 229 v ∧ v < b ∧ F 222 b = (t : Int) ∧
        C = C2 ++ mk 6 a 0 :: (We ++ [mk 11 a 0, mk 3 t 0]) ∧ st = ((C2.length + 1 + We.length : Nat) : Int) ∧ a < 256) ∨
     (q = 3 ∧ F 235 S.length = 2 ∧ ∃ (m v a t b1 m2 p : Nat) (C2 We W1 : List Int), PD (OB F K n0 Fn U S) F K (S.length - 1) m v C2 ∧ F 236 S.length = (v : Int) ∧ F 221 v = 10 ∧ F 222 v = (a : Int) ∧ F 223 v = (a : Int) ∧ Xp F K m v (F 224 v) We ∧ F 225 v = (b1 : Int) ∧ F 226 b1 = (v : Int) ∧ F 229 b1 = F 229 v ∧
        Bk (Sme F K) F (v + 1) m2 (C2.length + We.length + 2) b1 W1 ∧ m2 ≤ b ∧ F 226 v = (b : Int) ∧ F 226 b = (v : Int) ∧ F 229 b = F 229 v ∧ F 222 b = (t : Int) ∧
        C = C2 ++ mk 6 a 0 :: (We ++ mk 11 a (C2.length + We.length + 3 + W1.length) :: (W1 ++ [mk 12 p 0, mk 3 t 0])) ∧ st = ((C2.length + 2 + We.length + W1.length : Nat) : Int) ∧ p < 256 ∧ a < 256))
/-- nodes below a place stand as they were, but for the first one of one of them -/
def Agb (F F' : MF) (lo : Nat) (b : Nat) : Prop := ∀ c i, 221 ≤ c → c ≤ 229 → i < lo → ¬ (c = 224 ∧ i = b) → F' c i = F c i
section M97
variable {F F' : MF} {K : List Int} {n0 b lo hi v p n : Nat} {C : List Int} {Fn : FF} {U : List Int}
theorem PM.cong (h : PM F v p n) (h1 : F' 224 v = F 224 v) (h2 : ∀ c i, 221 ≤ c → c ≤ 227 → v < i → i ≤ v + n → F' c i = F c i) : PM F' v p n := by
  refine ⟨h1.trans h.1, fun i hi => ?_⟩
  rw [h2 221 _ (by decide) (by decide) (by omega) (by omega), h2 222 _ (by decide) (by decide) (by omega) (by omega), h2 227 _ (by decide) (by decide) (by omega) (by omega)]
  exact h.2 i hi
theorem IL.rng : ∀ (k hi : Nat) (x y : Int) (C : List Int) (Fn : FF) (U : List Int), IL F K n0 k hi x y C Fn U → n0 ≤ hi ∧ (k = 0 ∧ y = -1 ∧ x = -1 ∨ 0 < k ∧ (n0 : Int) ≤ y ∧ y < (hi : Int) ∧ (n0 : Int) ≤ x ∧ x < (hi : Int)) := by
  intro k
  induction k with
  | zero => rintro hi x y C Fn U ⟨h1, h2, h3, -⟩; exact ⟨h1, Or.inl ⟨rfl, h3, h2⟩⟩
  | succ k ih =>
    rintro hi x y C Fn U ⟨m, v, x', y', C', W, Fn', U', h1, h2, h3, h4, h5, h6, -⟩
    have a1 := ih _ _ _ _ _ _ h1
    refine ⟨by omega, Or.inr ⟨Nat.succ_pos k, by omega, by omega, ?_⟩⟩
    by_cases e : k = 0
    · rw [if_pos e] at h6; omega
    · rw [if_neg e] at h6; omega
theorem IL.cong : ∀ (k hi : Nat) (x y : Int) (C : List Int) (Fn : FF) (U : List Int), IL F K n0 k hi x y C Fn U → Ags F F' n0 hi y → IL F' K n0 k hi x y C Fn U := by
  intro k
  induction k with
  | zero => intro hi x y C Fn U h _; exact h
  | succ k ih =>
    rintro hi x y C Fn U ⟨m, v, x', y', C', W, Fn', U', h1, h2, h3, h4, h5, h6, h7⟩ hA
    have r := IL.rng _ _ _ _ _ _ _ h1
    have q : ∀ c i, 221 ≤ c → c ≤ 229 → n0 ≤ i → i < hi → ¬ (c = 227 ∧ i = v) → F' c i = F c i := fun c i x y z w u => hA c i x y z w (by omega)
    refine ⟨m, v, x', y', C', W, Fn', U', ih _ _ _ _ _ _ h1 (hA.sub (Nat.le_refl _) (by omega) (fun i _ _ e => by omega)), h2, h3, h4, h5, ?_, ?_⟩
    · by_cases e : k = 0
      · rw [if_pos e] at h6 ⊢; exact h6
      · rw [if_neg e] at h6 ⊢
        exact ⟨h6.1, (q 227 _ (by decide) (by decide) (by omega) (by omega) (by omega)).trans h6.2⟩
    · rcases h7 with ⟨p, e1, e2, e3⟩ | ⟨p, n, b, W1, e1, e2, e3, e4, e5, e6, e7, e8, e9, e10⟩
      · exact Or.inl ⟨p, (q 221 v (by decide) (by decide) (by omega) (by omega) (by omega)).trans e1, (q 222 v (by decide) (by decide) (by omega) (by omega) (by omega)).trans e2, e3⟩
      · have g := e7.rng Sme.rng
        refine Or.inr ⟨p, n, b, W1, (q 221 v (by decide) (by decide) (by omega) (by omega) (by omega)).trans e1, (q 222 v (by decide) (by decide) (by omega) (by omega) (by omega)).trans e2, e3.cong (q 224 v (by decide) (by decide) (by omega) (by omega) (by omega)) (fun c i x y z w => q c i x (by omega) (by omega) (by omega) (by omega)), (q 225 v (by decide) (by decide) (by omega) (by omega) (by omega)).trans e4, (q 226 b (by decide) (by decide) (by omega) (by omega) (by omega)).trans e5, (q 229 b (by decide) (by decide) (by omega) (by omega) (by omega)).trans e6, e7.cong Sme.rng Sme.cong (hA.sub (by omega) (Nat.le_refl _) (fun i _ _ e => by omega)), e8, ?_, e10⟩
        rw [q 228 b (by decide) (by decide) (by omega) (by omega) (by omega)]
        exact e9
theorem Lk.cong {k : Nat} {x y : Int} {w : Nat} (h : Lk F b k x y w) (h1 : F' 224 b = F 224 b) (h2 : 0 < k → F' 227 y.toNat = F 227 y.toNat) : Lk F' b k x y w := by
  unfold Lk at h ⊢
  by_cases e : k = 0
  · rw [if_pos e] at h ⊢; exact h1.trans h
  · rw [if_neg e] at h ⊢; exact ⟨h1.trans h.1, (h2 (by omega)).trans h.2⟩
theorem OF.cong (h : OF F K n0 b C Fn U) (h1 : Agb F F' (b + 1) b) (h2 : F' 201 48 = F 201 48) (h3 : F' 201 49 = F 201 49) : OF F' K n0 b C Fn U := by
  obtain ⟨k, m, v, p, n, t, x, y, C1, Fn1, g1, g2, g3, g4, g5, g6, g7, g8, g9, g10, g11, g12, g13, g14⟩ := h
  have r := IL.rng _ _ _ _ _ _ _ g1
  have q : ∀ c i, 221 ≤ c → c ≤ 229 → i < b → F' c i = F c i := fun c i x y z => h1 c i x y (by omega) (by omega)
  have qb : ∀ c, 221 ≤ c → c ≤ 229 → c ≠ 224 → F' c b = F c b := fun c x y z => h1 c b x y (by omega) (by omega)
  refine ⟨k, m, v, p, n, t, x, y, C1, Fn1, IL.cong _ _ _ _ _ _ _ g1 (fun c i x y _ z _ => q c i x y (by omega)), h3.trans g2, ?_, g4, g5, (q 221 v (by decide) (by decide) (by omega)).trans g6, (q 222 v (by decide) (by decide) (by omega)).trans g7, (q 227 v (by decide) (by decide) (by omega)).trans g8, g9.cong (q 224 v (by decide) (by decide) (by omega)) (fun c i x y z w => q c i x (by omega) (by omega)), (q 225 v (by decide) (by decide) (by omega)).trans g10, (qb 226 (by decide) (by decide) (by decide)).trans g11, (qb 229 (by decide) (by decide) (by decide)).trans g12, (qb 222 (by decide) (by decide) (by decide)).trans g13, g14⟩
  rw [h2]
  by_cases e : k = 0
  · rw [if_pos e] at g3 ⊢; exact g3
  · rw [if_neg e] at g3 ⊢
    exact ⟨g3.1, (q 227 _ (by decide) (by decide) (by omega)).trans g3.2⟩
theorem PD.cong {O O' : Nat → Nat → List Int → Prop} {i m w : Nat} (h : PD O F K i m w C) (hO : ∀ b lo C1, O b lo C1 → lo ≤ b + 1 → b < m → (∀ c j, 221 ≤ c → c ≤ 229 → j < lo → F' c j = F c j) → O' b lo C1) (hOr : ∀ b lo C1, O b lo C1 → lo = b + 1) (h1 : ∀ c j, 221 ≤ c → c ≤ 229 → j < m → F' c j = F c j) (h2 : F' 234 i = F 234 i) (h3 : F' 227 w = F 227 w) (h4 : F' 229 w = F 229 w) : PD O' F' K i m w C := by
  obtain ⟨b, lo, C1, k, x, y, W, g1, g2, g3, g4, g5, g6, g7, g8, g9⟩ := h
  have r := SLq.rng Sme.rng _ _ _ _ _ _ _ g2
  have e := hOr _ _ _ g1
  exact ⟨b, lo, C1, k, x, y, W, hO _ _ _ g1 (by omega) g3 (fun c j a b d => h1 c j a b (by omega)), SLq.cong Sme.rng Sme.cong _ _ _ _ _ _ _ g2 (fun c i x y _ z _ => h1 c i x y z), g3, g4, h2.trans g5, g6.cong (h1 224 b (by decide) (by decide) g3) (fun hk => h1 227 _ (by decide) (by decide) (by omega)), h3.trans g7, h4.trans g8, g9⟩
theorem OB.low : ∀ (S : List (Int × Int)) (b lo : Nat) (C : List Int), OB F K n0 Fn U S b lo C → lo = b + 1
  | [], _, _, _, h => absurd h (fun h => h)
  | _ :: _, _, _, _, h => h.1.2.2.2
theorem OB.ne : ∀ (S : List (Int × Int)) (b lo : Nat) (C : List Int), OB F K n0 Fn U S b lo C → S ≠ []
  | [], _, _, _, h => absurd h (fun h => h)
  | _ :: _, _, _, _, _ => fun e => by cases e
theorem OB.cong : ∀ (S : List (Int × Int)) (b lo : Nat) (C : List Int), OB F K n0 Fn U S b lo C → Agb F F' lo b → (∀ c i, 233 ≤ c → c ≤ 236 → i < S.length → ¬ (c = 234 ∧ i + 1 = S.length) → F' c i = F c i) → F' 201 48 = F 201 48 → F' 201 49 = F 201 49 → OB F' K n0 Fn U S b lo C := by
  intro S
  induction S with
  | nil => intro b lo C h; exact absurd h (fun h => h)
  | cons x S ih =>
    obtain ⟨q, st⟩ := x
    rintro b lo C ⟨⟨h1, h2, h3, rfl⟩, h⟩ hA hi h48 h49
    have w : ∀ c, 233 ≤ c → c ≤ 236 → c ≠ 234 → F' c S.length = F c S.length := fun c a b d => hi c _ a b (by rw [List.length_cons]; omega) (by omega)
    have qn : ∀ c i, 221 ≤ c → c ≤ 229 → i < b → F' c i = F c i := fun c i x y z => hA c i x y (by omega) (by omega)
    have qb : ∀ c, 221 ≤ c → c ≤ 229 → c ≠ 224 → F' c b = F c b := fun c x y z => hA c b x y (by omega) (by omega)
    have pd : ∀ m v C2, m ≤ b → v ≤ b → PD (OB F K n0 Fn U S) F K (S.length - 1) m v C2 → PD (OB F' K n0 Fn U S) F' K (S.length - 1) m v C2 := by
      intro m v C2 hm hv hp
      have hne : S ≠ [] := by
        obtain ⟨b0, lo0, C0, _, _, _, _, g, -⟩ := hp
        exact OB.ne _ _ _ _ g
      have hpos : 0 < S.length := List.length_pos_iff.mpr hne
      refine hp.cong (fun b0 lo0 C0 g e1 e2 e3 => ih b0 lo0 C0 g (fun c i x y z _ => e3 c i x y z) (fun c i x y z _ => hi c i x y (by rw [List.length_cons]; omega) (by rw [List.length_cons]; omega)) h48 h49) (fun b0 lo0 C0 g => OB.low _ _ _ _ g) (fun c j x y z => qn c j x y (by omega)) (hi 234 _ (by decide) (by decide) (by rw [List.length_cons]; omega) (by rw [List.length_cons]; omega)) (hA 227 v (by decide) (by decide) (by omega) (by omega)) (hA 229 v (by decide) (by decide) (by omega) (by omega))
    refine ⟨⟨(w 233 (by decide) (by decide) (by decide)).trans h1, (qb 221 (by decide) (by decide) (by decide)).trans h2, (qb 228 (by decide) (by decide) (by decide)).trans h3, rfl⟩, ?_⟩
    rcases h with ⟨e1, e2, e3, e4⟩ | ⟨e1, e2, m, a, C2, e3, e4, e5, e6⟩ | ⟨e1, e2, m, v, a, t, C2, We, e3, e4, e5, e6, e7, e8, e9, e10, e11, e12, e13, e14, e15, e16⟩ | ⟨e1, e2, m, v, a, t, b1, m2, p, C2, We, W1, e3, e4, e5, e6, e7, e8, e9, e10, e11, e12, e13, e14, e15, e16, e17, e18, e19⟩
    · exact Or.inl ⟨e1, e2, (w 235 (by decide) (by decide) (by decide)).trans e3, e4.cong hA h48 h49⟩
    · have hm : m ≤ b := by obtain ⟨_, _, _, _, _, _, _, _, _, _, g, _⟩ := e3; exact g
      exact Or.inr (Or.inl ⟨e1, (w 235 (by decide) (by decide) (by decide)).trans e2, m, a, C2, pd m b C2 hm (Nat.le_refl _) e3, (qb 226 (by decide) (by decide) (by decide)).trans e4, (qb 222 (by decide) (by decide) (by decide)).trans e5, e6⟩)
    · have hm : m ≤ v := by obtain ⟨_, _, _, _, _, _, _, _, _, _, g, _⟩ := e3; exact g
      have v1 : ∀ c, 221 ≤ c → c ≤ 229 → F' c v = F c v := fun c x y => qn c v x y e13
      refine Or.inr (Or.inr (Or.inl ⟨e1, (w 235 (by decide) (by decide) (by decide)).trans e2, m, v, a, t, C2, We, pd m v C2 (by omega) (by omega) e3, (w 236 (by decide) (by decide) (by decide)).trans e4, (v1 221 (by decide) (by decide)).trans e5, (v1 222 (by decide) (by decide)).trans e6, (v1 223 (by decide) (by decide)).trans e7, ?_, (v1 225 (by decide) (by decide)).trans e9, (v1 226 (by decide) (by decide)).trans e10, (qb 226 (by decide) (by decide) (by decide)).trans e11, ?_, e13, (qb 222 (by decide) (by decide) (by decide)).trans e14, e15, e16⟩))
      · rw [v1 224 (by decide) (by decide)]
        exact e8.cong (fun c i x y _ z _ => qn c i x y (by omega))
      · rw [qb 229 (by decide) (by decide) (by decide), v1 229 (by decide) (by decide)]; exact e12
    · have hm : m ≤ v := by obtain ⟨_, _, _, _, _, _, _, _, _, _, g, _⟩ := e3; exact g
      have g := e12.rng Sme.rng
      have v1 : ∀ c, 221 ≤ c → c ≤ 229 → F' c v = F c v := fun c x y => qn c v x y (by omega)
      have v2 : ∀ c, 221 ≤ c → c ≤ 229 → F' c b1 = F c b1 := fun c x y => qn c b1 x y (by omega)
      refine Or.inr (Or.inr (Or.inr ⟨e1, (w 235 (by decide) (by decide) (by decide)).trans e2, m, v, a, t, b1, m2, p, C2, We, W1, pd m v C2 (by omega) (by omega) e3, (w 236 (by decide) (by decide) (by decide)).trans e4, (v1 221 (by decide) (by decide)).trans e5, (v1 222 (by decide) (by decide)).trans e6, (v1 223 (by decide) (by decide)).trans e7, ?_, (v1 225 (by decide) (by decide)).trans e9, (v2 226 (by decide) (by decide)).trans e10, ?_, e12.cong Sme.rng Sme.cong (fun c i x y _ z _ => qn c i x y (by omega)), e13, (v1 226 (by decide) (by decide)).trans e14, (qb 226 (by decide) (by decide) (by decide)).trans e15, ?_, (qb 222 (by decide) (by decide) (by decide)).trans e17, e18, e19⟩))
      · rw [v1 224 (by decide) (by decide)]
        exact e8.cong (fun c i x y _ z _ => qn c i x y (by omega))
      · rw [v2 229 (by decide) (by decide), v1 229 (by decide) (by decide)]; exact e11
      · rw [qb 229 (by decide) (by decide) (by decide), v1 229 (by decide) (by decide)]; exact e16
end M97
