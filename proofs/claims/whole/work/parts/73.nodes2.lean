/-! READING, OF THE REFERENCE: nodes made and coupled -/
def Rpe (F : MF) (K : List Int) (lo hi v : Nat) (W : List Int) (f : Int) : Prop := ∃ d, Rp F K d lo hi v W f
/-- the nodes ahead of a place stand as they were -/
def Agf (F F' : MF) (N : Nat) : Prop := ∀ c i, 221 ≤ c → c ≤ 229 → i < N → F' c i = F c i
theorem Agf.rf {F : MF} {N : Nat} : Agf F F N := fun _ _ _ _ _ => rfl
theorem Agf.tr {F F1 F2 : MF} {N M : Nat} (h : Agf F F1 N) (k : Agf F1 F2 M) (hN : N ≤ M) : Agf F F2 N := fun c i a b d => (k c i a b (by omega)).trans (h c i a b d)
theorem Agf.le {F F' : MF} {N M : Nat} (h : Agf F F' M) (hN : N ≤ M) : Agf F F' N := fun c i a b d => h c i a b (by omega)
theorem Agf.ag {F F' : MF} {lo hi N : Nat} {v : Int} (h : Agf F F' N) (hN : hi ≤ N) : Ag F F' lo hi v := fun i _ b =>
  ⟨h 221 i (by decide) (by decide) (by omega), h 222 i (by decide) (by decide) (by omega), h 224 i (by decide) (by decide) (by omega), h 225 i (by decide) (by decide) (by omega), fun _ => ⟨h 223 i (by decide) (by decide) (by omega), h 227 i (by decide) (by decide) (by omega)⟩⟩
section M73
variable {F F' : MF} {K : List Int} {lo hi v N : Nat} {W : List Int} {f : Int}
theorem Rpe.rng (h : Rpe F K lo hi v W f) : lo ≤ v ∧ v < hi := by
  obtain ⟨d, h⟩ := h
  exact Rp.rng _ _ _ _ _ _ h
theorem Rpe.cong (h : Rpe F K lo hi v W f) (k : Ag F F' lo hi (v : Int)) : Rpe F' K lo hi v W f := by
  obtain ⟨d, h⟩ := h
  exact ⟨d, Rp.cong _ _ _ _ _ _ h k⟩
theorem Rpe.plain {p : Nat} (h1 : F 221 v = 13) (h2 : F 222 v = (p : Int)) (h3 : F 224 v = -1) (h4 : F 225 v = -1) : Rpe F K v (v + 1) v [mk 14 p 0] (p : Int) := ⟨1, Or.inl ⟨h1, rfl, rfl, p, h2, rfl, rfl, h3, h4⟩⟩
theorem Rpe.nt {p u : Nat} (h : Rpe F K lo v u W f) (h1 : F 221 v = 16) (h2 : F 222 v = (p : Int)) (h3 : F 224 v = (u : Int)) (h4 : F 223 u = f) (h5 : F 225 v = -1) : Rpe F K lo (v + 1) v (W ++ [mk 16 p 0]) (p : Int) := by
  obtain ⟨d, h⟩ := h
  exact ⟨d + 1, Or.inr (Or.inl ⟨h1, rfl, u, p, W, f, h3, h4, h, h2, rfl, rfl, h5⟩)⟩
theorem Rpe.pair {p u w m : Nat} {W2 : List Int} {f2 : Int} (h : Rpe F K lo m u W f) (k : Rpe F K m v w W2 f2) (h1 : F 221 v = 30) (h2 : F 222 v = kn K p) (h3 : F 224 v = (u : Int)) (h4 : F 225 v = (w : Int)) (h5 : F 223 u = f) (h6 : F 223 w = f2) :
    Rpe F K lo (v + 1) v (W ++ W2 ++ [mk 17 p 0]) f := by
  obtain ⟨d, h⟩ := h
  obtain ⟨e, k⟩ := k
  exact ⟨d + e + 1, Or.inr (Or.inr (Or.inl ⟨h1, rfl, u, w, m, p, W, W2, f, f2, h3, h4, h5, h6, h.mo (by omega), k.mo (by omega), h2, rfl, rfl⟩))⟩
theorem Rpe.grp {o e : Nat} (h : Rpe F K lo hi v W f) : Rpe F K lo hi v (W ++ [mk 18 o e]) (o : Int) := by
  obtain ⟨d, h⟩ := h
  exact ⟨d + 1, Or.inr (Or.inr (Or.inr (Or.inl ⟨o, e, W, f, h, rfl, rfl⟩)))⟩
theorem ArL.un : ∀ (k lo hi : Nat) (x y : Int) (W : List Int), ArL (Rpe F K) F k lo hi x y W → ∃ d, ArL (Rp F K d) F k lo hi x y W := by
  intro k
  induction k with
  | zero => intro lo hi x y W h; exact ⟨0, h⟩
  | succ k ih =>
    rintro lo hi x y W ⟨m, v, x', y', W1, W2, f, h1, h2, ⟨e, h3⟩, h4, h5, h6⟩
    obtain ⟨d, h1⟩ := ih _ _ _ _ _ h1
    exact ⟨d + e, m, v, x', y', W1, W2, f, ArL.mo (fun _ _ _ _ _ h => Rp.mo h (by omega)) _ _ _ _ _ _ h1, h2, h3.mo (by omega), h4, h5, h6⟩
theorem Rpe.call {p k : Nat} {y : Int} (h : ArL (Rpe F K) F k (v + 1) hi (F 224 v) y W) (h1 : F 221 v = 14) (h2 : F 222 v = (p : Int)) (h3 : y ≠ -1 → F 227 y.toNat = -1) (h4 : p < 256) : Rpe F K v hi v (W ++ [mk 15 p k]) (p : Int) := by
  obtain ⟨d, h⟩ := ArL.un _ _ _ _ _ _ h
  exact ⟨d + 1, Or.inr (Or.inr (Or.inr (Or.inr ⟨h1, rfl, k, p, y, W, h2, h, h3, rfl, rfl, h4⟩)))⟩
/-- a node is made -/
def Mk (F F' : MF) (N : Nat) (k t : Int) : Prop := F' 201 27 = ((N + 1 : Nat) : Int) ∧ (F' 221 N = k ∧ F' 222 N = t ∧ F' 223 N = t ∧ F' 224 N = -1 ∧ F' 225 N = -1 ∧ F' 226 N = -1 ∧ F' 227 N = -1 ∧ F' 228 N = -1 ∧ F' 229 N = -1) ∧ Agf F F' N ∧ (∀ j, j ≠ 27 → F' 201 j = F 201 j) ∧ fr (fun c => c = 201 ∨ (221 ≤ c ∧ c ≤ 229)) F F'
theorem s_221 {k t : Int} (hS : St F) (hN : F 201 27 = (N : Int)) (hl : N < 1600) : C_221 k t F (fun r F' => r = (N : Int) ∧ Mk F F' N k t) m_no := by
  refine c_221 hS ?_
  rw [hN, Int.toNat_natCast]
  obtain ⟨F', e⟩ : ∃ F', F' = m_up (m_up (m_up (m_up (m_up (m_up (m_up (m_up (m_up (m_up F 221 N k) 222 N t) 223 N t) 224 N (-1)) 225 N (-1)) 226 N (-1)) 227 N (-1)) 228 N (-1)) 229 N (-1)) 201 27 ((N : Int) + 1) := ⟨_, rfl⟩
  rw [← e]
  have hb : (0 : Int) ≤ (N : Int) ∧ (N : Int) < 1600 := by omega
  have hc : ∀ c i, ¬ (c = 201 ∧ i = 27) → ¬ (221 ≤ c ∧ c ≤ 229 ∧ i = N) → F' c i = F c i := by
    intro c i h1 h2
    rw [e, u_ne (by omega), u_ne (by omega), u_ne (by omega), u_ne (by omega), u_ne (by omega), u_ne (by omega), u_ne (by omega), u_ne (by omega), u_ne (by omega), u_ne (by omega)]
  refine ⟨hb, hb, hb, hb, hb, hb, hb, hb, hb, by omega, rfl, ?_, ⟨?_, ?_, ?_, ?_, ?_, ?_, ?_, ?_, ?_⟩, fun c i h1 h2 h3 => hc c i (by omega) (by omega), fun j hj => hc 201 j (by omega) (by omega), fun c h => funext fun i => hc c i (by omega) (by omega)⟩
  · rw [e, u_eq]; omega
  · rw [e, u_ne (by omega), u_ne (by omega), u_ne (by omega), u_ne (by omega), u_ne (by omega), u_ne (by omega), u_ne (by omega), u_ne (by omega), u_ne (by omega), u_eq]
  · rw [e, u_ne (by omega), u_ne (by omega), u_ne (by omega), u_ne (by omega), u_ne (by omega), u_ne (by omega), u_ne (by omega), u_ne (by omega), u_eq]
  · rw [e, u_ne (by omega), u_ne (by omega), u_ne (by omega), u_ne (by omega), u_ne (by omega), u_ne (by omega), u_ne (by omega), u_eq]
  · rw [e, u_ne (by omega), u_ne (by omega), u_ne (by omega), u_ne (by omega), u_ne (by omega), u_ne (by omega), u_eq]
  · rw [e, u_ne (by omega), u_ne (by omega), u_ne (by omega), u_ne (by omega), u_ne (by omega), u_eq]
  · rw [e, u_ne (by omega), u_ne (by omega), u_ne (by omega), u_ne (by omega), u_eq]
  · rw [e, u_ne (by omega), u_ne (by omega), u_ne (by omega), u_eq]
  · rw [e, u_ne (by omega), u_ne (by omega), u_eq]
  · rw [e, u_ne (by omega), u_eq]
/-- what is done last: a node that stands for words, at a place of the row of those done -/
def Top (F : MF) (K : List Int) (q lo hi : Nat) (W : List Int) (f : Int) : Prop := ∃ v : Nat, F 239 q = (v : Int) ∧ F 223 v = f ∧ F 227 v = -1 ∧ Rpe F K lo hi v W f
theorem Top.cong {q : Nat} (h : Top F K q lo hi W f) (h1 : F' 239 q = F 239 q) (h2 : Agf F F' hi) : Top F' K q lo hi W f := by
  obtain ⟨v, k1, k2, k3, k4⟩ := h
  have := k4.rng
  exact ⟨v, h1.trans k1, (h2 223 v (by decide) (by decide) (by omega)).trans k2, (h2 227 v (by decide) (by decide) (by omega)).trans k3, k4.cong (h2.ag (Nat.le_refl _))⟩
/-- signs that wait, innermost first, each with what is done ahead of it -/
def PE (F : MF) (K : List Int) (s0 q0 lo0 : Nat) (W0 : List Int) : List Nat → Nat → Nat → Nat → List Int → Prop
  | [] => fun s q hi W => s = s0 ∧ q = q0 ∧ hi = lo0 ∧ W = W0
  | p :: ps => fun s q hi W => ∃ (s' q' m : Nat) (W' W1 : List Int) (f : Int), PE F K s0 q0 lo0 W0 ps s' q' m W' ∧ s = s' + 1 ∧ q = q' + 1 ∧ F 238 s' = kn K p ∧ Top F K q' m hi W1 f ∧ W = W' ++ W1
theorem Top.rng {q : Nat} (h : Top F K q lo hi W f) : lo < hi := by
  obtain ⟨v, _, _, _, h⟩ := h
  have := h.rng
  omega
theorem PE.cong {s0 q0 lo0 : Nat} {W0 : List Int} : ∀ (ps : List Nat) (s q hi : Nat) (W : List Int), PE F K s0 q0 lo0 W0 ps s q hi W → (∀ i, s0 ≤ i → i < s → F' 238 i = F 238 i) → (∀ i, q0 ≤ i → i < q → F' 239 i = F 239 i) → Agf F F' hi → PE F' K s0 q0 lo0 W0 ps s q hi W ∧ s0 ≤ s ∧ q0 ≤ q := by
  intro ps
  induction ps with
  | nil => rintro s q hi W ⟨h1, h2, h3, h4⟩ _ _ _; exact ⟨⟨h1, h2, h3, h4⟩, by omega, by omega⟩
  | cons p ps ih =>
    rintro s q hi W ⟨s', q', m, W', W1, f, h1, h2, h3, h4, h5, h6⟩ k1 k2 k3
    have := h5.rng
    obtain ⟨g1, g2, g3⟩ := ih _ _ _ _ h1 (fun i a b => k1 i a (by omega)) (fun i a b => k2 i a (by omega)) (k3.le (by omega))
    exact ⟨⟨s', q', m, W', W1, f, g1, h2, h3, (k1 s' g2 (by omega)).trans h4, h5.cong (k2 q' g3 (by omega)) k3, h6⟩, by omega, by omega⟩
theorem PE.rng {s0 q0 lo0 : Nat} {W0 : List Int} : ∀ (ps : List Nat) (s q hi : Nat) (W : List Int), PE F K s0 q0 lo0 W0 ps s q hi W → s = s0 + ps.length ∧ q = q0 + ps.length ∧ lo0 ≤ hi := by
  intro ps
  induction ps with
  | nil => rintro s q hi W ⟨h1, h2, h3, h4⟩; exact ⟨h1, h2, by omega⟩
  | cons p ps ih =>
    rintro s q hi W ⟨s', q', m, W', W1, f, h1, h2, h3, h4, h5, h6⟩
    have := h5.rng
    obtain ⟨g1, g2, g3⟩ := ih _ _ _ _ h1
    rw [List.length_cons]
    omega
end M73
