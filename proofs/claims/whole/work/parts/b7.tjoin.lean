/-! TYPES: both sides, what stands between words -/
abbrev Z3 : Type := Nat × Nat × Int
def TZ (f : Nat) (Z : List Z3) : List (Nat × Int) := Z.map (fun z => (z.1, 200 * (f : Int) + z.2.2))
def NZ (Z : List Z3) : List (Nat × Int) := Z.map (fun z => (z.2.1, z.2.2))
def PZ (X : Nat → List Int) (Z : List Z3) : Nat → Nat → Prop := fun s u => (Dc X s ∧ u = s) ∨ ∃ z ∈ Z, s = z.1 ∧ u = 600 + z.2.1
def trI (id : Int) : Int := 1000 * (id / 200) + id % 200
/-- slots of tokens ahead that are bound to nothing -/
def FrC (X : Nat → List Int) (h : Nat → Nat) (A : Nat → Prop) : Prop := ∀ s, A s → s < 600 ∧ bnd X s = -1 ∧ h s = s ∧ ∀ x, h x = s → x = s
/-- nodes ahead -/
def FrR (H : Nat → Nat) (T : Nat → Int) (N : Nat → Prop) : Prop := ∀ m, N m → H (600 + m) = 600 + m ∧ T (600 + m) = 0 ∧ ∀ x, H x = 600 + m → x = 600 + m
def TJ (X : Nat → List Int) (A N : Nat → Prop) (Z : List Z3) (q : TQ) (r : TR) : Prop := RelP (PZ X Z) q.1 r.1 r.2.1 ∧ r.2.2 = q.2.map trI ∧ (∀ z ∈ Z, z.1 < 602 ∧ ¬ A z.1 ∧ ¬ N z.2.1 ∧ (0 ≤ z.2.2 ∧ z.2.2 < 200)) ∧ FrC X q.1 A ∧ FrR r.1 r.2.1 N ∧ q.1 600 = 600 ∧ q.1 601 = 601
section Mb7
variable {X : Nat → List Int} {A N A' N' : Nat → Prop} {Z Z' : List Z3} {h H : Nat → Nat} {T : Nat → Int} {E E' : List Int} {s t u u' c v n f : Nat} {fi e k p : Int} {q : TQ} {r : TR}
theorem FrC.al (hF : FrC X h A) (hs : ¬ A s) (ht : ¬ A t) : FrC X (alh h s t) A := by
  intro a ha
  obtain ⟨a1, a2, a3, a4⟩ := hF a ha
  have ns : h s ≠ a := fun e => hs (by rw [a4 s e]; exact ha)
  have nt : h t ≠ a := fun e => ht (by rw [a4 t e]; exact ha)
  have one : ∀ y z : Nat, h y ≠ a → h z ≠ a → (if h a = h y then h z else h a) = a ∧ ∀ x, (if h x = h y then h z else h x) = a → x = a := fun y z hy hz => by
    refine ⟨by rw [if_neg (by rw [a3]; exact fun e => hy e.symm)]; exact a3, fun x hx => ?_⟩
    by_cases e : h x = h y
    · rw [if_pos e] at hx; exact absurd hx hz
    · rw [if_neg e] at hx; exact a4 x hx
  unfold alh
  split
  · exact ⟨a1, a2, a3, a4⟩
  · split
    · exact ⟨a1, a2, one s t ns nt⟩
    · split
      · exact ⟨a1, a2, one t s nt ns⟩
      · exact ⟨a1, a2, a3, a4⟩
theorem alh_big (hc : h c = c) (h6 : 600 ≤ c) : alh h s t c = c := by
  unfold alh
  split
  · exact hc
  · split
    · show (if h c = h s then h t else h c) = c
      rw [if_neg (by omega)]; exact hc
    · split
      · show (if h c = h t then h s else h c) = c
        rw [if_neg (by omega)]; exact hc
      · exact hc
theorem FrR.mu (hF : FrR H T N) (hu : ∀ m, N m → u ≠ 600 + m) : FrR (muR (H, T, E) u k e).1 (muR (H, T, E) u k e).2.1 N := by
  unfold muR
  split
  · intro m hm
    obtain ⟨a1, a2, a3⟩ := hF m hm
    have nu : 600 + m ≠ H u := fun e => hu m hm (a3 u e.symm)
    exact ⟨a1, by show (if 600 + m = H u then k else T (600 + m)) = 0; rw [if_neg nu]; exact a2, a3⟩
  · split
    · exact hF
    · exact hF
theorem FrR.jn (hF : FrR H T N) (hu : ∀ m, N m → u ≠ 600 + m) (hu' : ∀ m, N m → u' ≠ 600 + m) : FrR (jnR (H, T, E) u u' e).1 (jnR (H, T, E) u u' e).2.1 N := by
  unfold jnR
  split
  · exact hF
  · split
    · exact hF
    · intro m hm
      obtain ⟨a1, a2, a3⟩ := hF m hm
      have nu : H u ≠ 600 + m := fun e => hu m hm (a3 u e)
      have nu' : H u' ≠ 600 + m := fun e => hu' m hm (a3 u' e)
      refine ⟨?_, ?_, fun x hx => ?_⟩
      · show (if H (600 + m) = H u then H u' else H (600 + m)) = 600 + m
        rw [if_neg (by rw [a1]; exact fun e => nu e.symm)]; exact a1
      · show (if 600 + m = H u' then _ else T (600 + m)) = 0
        rw [if_neg (fun e => nu' e.symm)]; exact a2
      · change (if H x = H u then H u' else H x) = 600 + m at hx
        by_cases e : H x = H u
        · rw [if_pos e] at hx; exact absurd hx nu'
        · rw [if_neg e] at hx; exact a3 x hx
theorem FrR.lk (hF : FrR H T N) (hu : ∀ m, N' m → v ≠ 600 + m) (hN : ∀ m, N' m → N m ∧ m ≠ n) : FrR (lkR (H, T, E) (600 + n) v).1 (lkR (H, T, E) (600 + n) v).2.1 N' := by
  intro m hm
  obtain ⟨hm1, hm2⟩ := hN m hm
  obtain ⟨a1, a2, a3⟩ := hF m hm1
  have nv : H v ≠ 600 + m := fun e => hu m hm (a3 v e)
  refine ⟨?_, a2, fun x hx => ?_⟩
  · show (if H (600 + m) = 600 + n then H v else H (600 + m)) = 600 + m
    rw [if_neg (by rw [a1]; omega)]; exact a1
  · change (if H x = 600 + n then H v else H x) = 600 + m at hx
    by_cases e : H x = 600 + n
    · rw [if_pos e] at hx; exact absurd hx nv
    · rw [if_neg e] at hx; exact a3 x hx
theorem FrR.st (hF : FrR H T N) (hN : ∀ m, N' m → N m ∧ m ≠ n) : FrR (stR (H, T, E) (600 + n) k).1 (stR (H, T, E) (600 + n) k).2.1 N' := by
  intro m hm
  obtain ⟨hm1, hm2⟩ := hN m hm
  obtain ⟨a1, a2, a3⟩ := hF m hm1
  exact ⟨a1, by show (if 600 + m = 600 + n then k else T (600 + m)) = 0; rw [if_neg (by omega)]; exact a2, a3⟩
theorem TJ.mo (hJ : TJ X A N Z q r) (hZ : ∀ z ∈ Z', z ∈ Z) (hA : ∀ s, A' s → A s) (hN : ∀ m, N' m → N m) : TJ X A' N' Z' q r := by
  obtain ⟨j1, j2, j3, j4, j5, j6⟩ := hJ
  refine ⟨j1.sub (fun s u h => ?_), j2, fun z hz => ?_, fun s hs => j4 s (hA s hs), fun m hm => j5 m (hN m hm), j6⟩
  · rcases h with h | ⟨z, h1, h2⟩
    · exact Or.inl h
    · exact Or.inr ⟨z, hZ z h1, h2⟩
  · obtain ⟨k1, k2, k3, k4⟩ := j3 z (hZ z hz)
    exact ⟨k1, fun h => k2 (hA _ h), fun h => k3 (hN _ h), k4⟩
theorem TJ.nA (hJ : TJ X A N Z q r) (hP : PZ X Z s u) : ¬ A s := by
  obtain ⟨j1, j2, j3, j4, j5, j6⟩ := hJ
  rcases hP with ⟨⟨-, h2⟩, -⟩ | ⟨z, h1, rfl, -⟩
  · intro ha
    have := (j4 s ha).2.1
    omega
  · exact (j3 z h1).2.1
theorem TJ.nN (hJ : TJ X A N Z q r) (hP : PZ X Z s u) : ∀ m, N m → u ≠ 600 + m := by
  obtain ⟨j1, j2, j3, j4, j5, j6⟩ := hJ
  intro m hm e
  rcases hP with ⟨⟨h1, -⟩, h2⟩ | ⟨z, h1, -, h2⟩
  · omega
  · have hz := (j3 z h1).2.2.1
    have : m = z.2.1 := by omega
    rw [this] at hm
    exact hz hm
theorem TJ.ns (hJ : TJ X A N Z q r) (hP : PZ X Z s u) : s < 602 := (hJ.1.1 s u hP) |> fun _ => by
  rcases hP with ⟨⟨h1, -⟩, -⟩ | ⟨z, h1, rfl, -⟩
  · omega
  · exact (hJ.2.2.1 z h1).1
theorem TJ.A6 (hJ : TJ X A N Z q r) (hc : 600 ≤ c) : ¬ A c := fun ha => by
  have := (hJ.2.2.2.1 c ha).1
  omega
theorem TJ.mu (hJ : TJ X A N Z (h, E) (H, T, E')) (hP : PZ X Z s u) (hv : (c = 600 ∧ k = 1) ∨ (c = 601 ∧ k = 2)) (he : e = trI fi) : TJ X A N Z (alT (h, E) s c fi) (muR (H, T, E') u k e) := by
  have nA := hJ.nA hP
  have nN := hJ.nN hP
  have nc : ¬ A c := hJ.A6 (by omega)
  obtain ⟨j1, j2, j3, j4, j5, j6, j7⟩ := hJ
  change h 600 = 600 at j6
  change h 601 = 601 at j7
  change E' = E.map trI at j2
  have hc : h c = c := by rcases hv with ⟨rfl, -⟩ | ⟨rfl, -⟩ <;> assumption
  obtain ⟨k1, k2⟩ := rel_mu (E := E') (Ec := E) (fi := fi) (e := e) j1 hP hc hv
  refine ⟨k1, ?_, j3, FrC.al j4 nA nc, FrR.mu j5 nN, alh_big j6 (by decide), alh_big j7 (by decide)⟩
  show (muR (H, T, E') u k e).2.2 = (ale h s c fi E).map trI
  rcases k2 with ⟨a, b⟩ | ⟨a, b⟩
  · rw [a, b]; exact j2
  · rw [a, b, j2, he, List.map_append]; rfl
theorem TJ.jn (hJ : TJ X A N Z (h, E) (H, T, E')) (hP : PZ X Z s u) (hP' : PZ X Z t u') (he : e = trI fi) : TJ X A N Z (alT (h, E) s t fi) (jnR (H, T, E') u u' e) := by
  have nA := hJ.nA hP
  have nN := hJ.nN hP
  have nA' := hJ.nA hP'
  have nN' := hJ.nN hP'
  obtain ⟨j1, j2, j3, j4, j5, j6, j7⟩ := hJ
  change h 600 = 600 at j6
  change h 601 = 601 at j7
  change E' = E.map trI at j2
  obtain ⟨k1, k2⟩ := rel_jn (E := E') (Ec := E) (fi := fi) (e := e) j1 hP hP'
  refine ⟨k1, ?_, j3, FrC.al j4 nA nA', FrR.jn j5 nN nN', alh_big j6 (by decide), alh_big j7 (by decide)⟩
  show (jnR (H, T, E') u u' e).2.2 = (ale h s t fi E).map trI
  rcases k2 with ⟨a, b⟩ | ⟨a, b⟩
  · rw [a, b]; exact j2
  · rw [a, b, j2, he, List.map_append]; rfl
theorem TJ.cons {z : Z3} (hR : RelP (PZ X (z :: Z)) h H T) (hz : z.1 < 602 ∧ ¬ A' z.1 ∧ ¬ N' z.2.1 ∧ (0 ≤ z.2.2 ∧ z.2.2 < 200)) (hZ : ∀ z ∈ Z, z.1 < 602 ∧ ¬ A' z.1 ∧ ¬ N' z.2.1 ∧ (0 ≤ z.2.2 ∧ z.2.2 < 200)) (hE : E' = E.map trI) (hC : FrC X h A') (hN : FrR H T N') (h6 : h 600 = 600) (h7 : h 601 = 601) : TJ X A' N' (z :: Z) (h, E) (H, T, E') := by
  refine ⟨hR, hE, fun y hy => ?_, hC, hN, h6, h7⟩
  rcases List.mem_cons.mp hy with e | e
  · rw [e]; exact hz
  · exact hZ y e
theorem PZ.add {z : Z3} (h : PZ X (z :: Z) s u) : Padd (PZ X Z) z.1 (600 + z.2.1) s u := by
  rcases h with h | ⟨y, h1, h2, h3⟩
  · exact Or.inl (Or.inl h)
  · rcases List.mem_cons.mp h1 with e | e
    · rw [e] at h2 h3
      exact Or.inr ⟨h2, h3⟩
    · exact Or.inl (Or.inr ⟨y, e, h2, h3⟩)
theorem TJ.fresh (hJ : TJ X A N Z (h, E) (H, T, E')) (hn : N n) : H (600 + n) = 600 + n ∧ T (600 + n) = 0 ∧ ∀ s u, PZ X Z s u → H u ≠ 600 + n := by
  have j5 := hJ.2.2.2.2.1 n hn
  exact ⟨j5.1, j5.2.1, fun s u hP e => hJ.nN hP n hn (j5.2.2 u e)⟩
theorem TJ.olds (hJ : TJ X A N Z q r) (hA : ∀ s, A' s → A s) (hN : ∀ m, N' m → N m ∧ m ≠ n) : ∀ z ∈ Z, z.1 < 602 ∧ ¬ A' z.1 ∧ ¬ N' z.2.1 ∧ (0 ≤ z.2.2 ∧ z.2.2 < 200) := fun z hz => by
  obtain ⟨k1, k2, k3, k4⟩ := hJ.2.2.1 z hz
  exact ⟨k1, fun h => k2 (hA _ h), fun h => k3 (hN _ h).1, k4⟩
theorem TJ.push_lk (hJ : TJ X A N Z (h, E) (H, T, E')) (hP : PZ X Z c v) (hn : N n) (hN : ∀ m, N' m → N m ∧ m ≠ n) (hA : ∀ s, A' s → A s) (hp : 0 ≤ p ∧ p < 200) : TJ X A' N' ((c, n, p) :: Z) (h, E) (lkR (H, T, E') (600 + n) v) := by
  obtain ⟨f1, f2, f3⟩ := hJ.fresh hn
  have nA := hJ.nA hP
  have nN := hJ.nN hP
  have c6 := hJ.ns hP
  have ol := hJ.olds hA hN
  obtain ⟨j1, j2, j3, j4, j5, j6, j7⟩ := hJ
  exact TJ.cons ((rel_lk (E := E') j1 f3 f1 hP).sub (fun s u h => PZ.add h)) ⟨c6, fun h => nA (hA _ h), fun h => (hN n h).2 rfl, hp⟩ ol j2 (fun s hs => j4 s (hA s hs)) (FrR.lk j5 (fun m hm => nN m (hN m hm).1) hN) j6 j7
theorem TJ.push_st (hJ : TJ X A N Z (h, E) (H, T, E')) (hk : (c = 600 ∧ k = 1) ∨ (c = 601 ∧ k = 2)) (hn : N n) (hN : ∀ m, N' m → N m ∧ m ≠ n) (hA : ∀ s, A' s → A s) (hp : 0 ≤ p ∧ p < 200) : TJ X A' N' ((c, n, p) :: Z) (h, E) (stR (H, T, E') (600 + n) k) := by
  obtain ⟨f1, f2, f3⟩ := hJ.fresh hn
  have nA : ¬ A c := hJ.A6 (by omega)
  have ol := hJ.olds hA hN
  obtain ⟨j1, j2, j3, j4, j5, j6, j7⟩ := hJ
  have hc : h c = c := by rcases hk with ⟨rfl, -⟩ | ⟨rfl, -⟩ <;> assumption
  exact TJ.cons ((rel_st (E := E') j1 f3 f1 hc hk).sub (fun s u h => PZ.add h)) ⟨by show c < 602; omega, fun h => nA (hA _ h), fun h => (hN n h).2 rfl, hp⟩ ol j2 (fun s hs => j4 s (hA s hs)) (FrR.st j5 hN) j6 j7
theorem TJ.push_own (hJ : TJ X A N Z (h, E) (H, T, E')) (hs : A s) (hs' : ¬ A' s) (hn : N n) (hN : ∀ m, N' m → N m ∧ m ≠ n) (hA : ∀ s, A' s → A s) (hp : 0 ≤ p ∧ p < 200) : TJ X A' N' ((s, n, p) :: Z) (h, E) (H, T, E') := by
  obtain ⟨f1, f2, f3⟩ := hJ.fresh hn
  have ol := hJ.olds hA hN
  have nA : ∀ a b, PZ X Z a b → ¬ A a := fun a b hP => hJ.nA hP
  obtain ⟨j1, j2, j3, j4, j5, j6, j7⟩ := hJ
  obtain ⟨a1, a2, a3, a4⟩ := j4 s hs
  exact TJ.cons ((rel_own j1 (fun a b hP => ⟨f3 a b hP, fun e => nA a b hP (by rw [a4 a e]; exact hs)⟩) f1 a3 a1 f2).sub (fun s u h => PZ.add h)) ⟨by show s < 602; omega, hs', fun h => (hN n h).2 rfl, hp⟩ ol j2 (fun s hs => j4 s (hA s hs)) (fun m hm => j5 m (hN m hm).1) j6 j7
theorem TJ.out (hJ : TJ X A N Z (h, E) (H, T, E')) (hP : PZ X Z s u) (ht : A t) (ht' : ¬ A' t) (hA : ∀ s, A' s → A s) : TJ X A' N Z (alT (h, E) s t fi) (H, T, E') := by
  have nA : ∀ a b, PZ X Z a b → ¬ A a := fun a b hP => hJ.nA hP
  have ns := hJ.nA hP
  obtain ⟨j1, j2, j3, j4, j5, j6, j7⟩ := hJ
  obtain ⟨a1, a2, a3, a4⟩ := j4 t ht
  obtain ⟨k1, k2⟩ := rel_out (Ec := E) (fi := fi) j1 hP a3 a1 (fun a b hab e => nA a b hab (by rw [a4 a e]; exact ht))
  have j4' : FrC X h A' := fun s hs => j4 s (hA s hs)
  refine ⟨k1, ?_, fun z hz => ?_, FrC.al j4' (fun h => ns (hA _ h)) ht', j5, alh_big j6 (by decide), alh_big j7 (by decide)⟩
  · show E' = (ale h s t fi E).map trI
    rw [k2]; exact j2
  · obtain ⟨b1, b2, b3⟩ := j3 z hz
    exact ⟨b1, fun h => b2 (hA _ h), b3⟩
theorem TJ.err (hJ : TJ X A N Z (h, E) (H, T, E')) (he : e = trI fi) : TJ X A N Z (h, E ++ [fi]) (H, T, E' ++ [e]) := by
  obtain ⟨j1, j2, j3⟩ := hJ
  refine ⟨j1, ?_, j3⟩
  change E' = E.map trI at j2
  show E' ++ [e] = (E ++ [fi]).map trI
  rw [j2, he, List.map_append]; rfl
theorem TJ.grp {z : Z3} (hJ : TJ X A N (z :: Z) q r) (hp : 0 ≤ p ∧ p < 200) : TJ X A N ((z.1, z.2.1, p) :: Z) q r := by
  obtain ⟨j1, j2, j3, j4, j5, j6⟩ := hJ
  refine ⟨j1.sub (fun s u h => ?_), j2, fun y hy => ?_, j4, j5, j6⟩
  · rcases h with h | ⟨y, h1, h2, h3⟩
    · exact Or.inl h
    · rcases List.mem_cons.mp h1 with e | e
      · rw [e] at h2 h3
        exact Or.inr ⟨z, List.mem_cons_self, h2, h3⟩
      · exact Or.inr ⟨y, List.mem_cons_of_mem _ e, h2, h3⟩
  · rcases List.mem_cons.mp hy with e | e
    · rw [e]
      obtain ⟨k1, k2, k3, -⟩ := j3 z (List.mem_cons_self)
      exact ⟨k1, k2, k3, hp⟩
    · exact j3 y (List.mem_cons_of_mem _ e)
theorem tri_at (hp : 0 ≤ p ∧ p < 200) : 1000 * (f : Int) + p = trI (200 * (f : Int) + p) := by
  unfold trI
  omega
theorem TJ.arg : ∀ (Zl : List Z3) (i : Nat) (q : TQ) (r : TR), (∀ z ∈ Zl, z ∈ Z) → TJ X A N Z q r → (∀ j, i ≤ j → j < i + Zl.length → Dc X (v + 2 + 2 * j)) → TJ X A N Z (argT v i (TZ f Zl) q) (argR f v i (NZ Zl) r)
  | [], _, _, _, _, hJ, _ => hJ
  | z :: Zl, i, (h, E), (H, T, E'), hZ, hJ, hD => by
    have hz := hZ z (List.mem_cons_self)
    have := hJ.2.2.1 z hz
    show TJ X A N Z (argT v (i + 1) (TZ f Zl) (alT (h, E) z.1 (v + 2 + 2 * i) (200 * (f : Int) + z.2.2))) (argR f v (i + 1) (NZ Zl) (jnR (H, T, E') (600 + z.2.1) (v + 2 + 2 * i) (1000 * (f : Int) + z.2.2)))
    refine TJ.arg Zl (i + 1) _ _ (fun y hy => hZ y (List.mem_cons_of_mem _ hy)) (hJ.jn (Or.inr ⟨z, hz, rfl, rfl⟩) (Or.inl ⟨hD i (Nat.le_refl _) (by rw [List.length_cons]; omega), rfl⟩) (tri_at this.2.2.2)) (fun j h1 h2 => hD j (by omega) (by rw [List.length_cons]; omega))
end Mb7
