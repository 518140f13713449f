/-! COMPLETIONS: what is declared in the blocks that are open, of the reference -/
def LtZ (F : MF) : Nat → Int → Int → List Int → Prop
  | 0, x, z, L => x = z ∧ L = []
  | k + 1, x, z, L => ∃ (u : Nat) (L' : List Int), x = (u : Int) ∧ u < 1600 ∧ L = (if F 221 u = 5 then [F 222 u] else []) ++ L' ∧ LtZ F k (F 227 u) z L'
/-- the LETs of an open block -/
def BkT (F : MF) (i : Nat) (T : List Int) : Prop := ∃ b k : Nat, F 233 i = (b : Int) ∧ b < 1600 ∧ LtZ F k (F 224 b) (-1) T
def BL (F : MF) : Nat → List (List Int) → Prop
  | 0, Bs => Bs = []
  | i + 1, Bs => ∃ (T : List Int) (r : List (List Int)), Bs = T.reverse :: r ∧ BkT F i T ∧ BL F i r
/-- the function around -/
def FnA (F : MF) (p n : Nat) : Prop := ∃ b v : Nat, F 233 0 = (b : Int) ∧ b < 1600 ∧ F 226 b = (v : Int) ∧ v + n < 1600 ∧ PM F v p n ∧ p < 256
section Mi1
variable {F : MF} {K : List Int} {n0 : Nat} {Fn : FF} {U : List Int}
theorem LtZ.snoc {u : Nat} (hu : u < 1600) : ∀ (k : Nat) (x : Int) (L : List Int), LtZ F k x (u : Int) L → LtZ F (k + 1) x (F 227 u) (L ++ (if F 221 u = 5 then [F 222 u] else []))
  | 0, x, L, ⟨h1, h2⟩ => ⟨u, [], h1, hu, by rw [h2, List.nil_append, List.append_nil], rfl, rfl⟩
  | k + 1, x, L, ⟨u', L', h1, h2, h3, h4⟩ => ⟨u', L' ++ (if F 221 u = 5 then [F 222 u] else []), h1, h2, by rw [h3, List.append_assoc], LtZ.snoc hu k _ _ h4⟩
theorem Xp.sf {lo hi : Nat} {u : Int} {W : List Int} (h : Xp F K lo hi u W) (hh : hi ≤ 1600) (s : SS) : sfo s W = s := by
  obtain ⟨v, lo', hi', f, -, -, -, -, -, ⟨L, -, h1, -⟩, -⟩ := LX_xp h hh
  exact h1 s
def Sf (F : MF) (v : Nat) (W : List Int) : Prop := ∀ s : SS, sfo s W = ((if F 221 v = 5 then F 222 v :: s.1 else s.1), s.2)
theorem SLq.sf {P : Nat → Nat → Nat → Nat → List Int → Prop} {b : Nat} (hP : ∀ a b c v W, P a b c v W → a ≤ v ∧ v < b) (hX : ∀ a b c v W, P a b c v W → b ≤ 1600 → Sf F v W) : ∀ (k lo hi c : Nat) (x y : Int) (W : List Int), SLq P F b k lo hi c x y W → hi ≤ 1600 →
    ∃ T : List Int, (∀ s, sfo s W = (T.reverse ++ s.1, s.2)) ∧ ∀ z z' : Int, (if k = 0 then z = z' else z = x ∧ F 227 y.toNat = z') → LtZ F k z z' T := by
  intro k
  induction k with
  | zero =>
    rintro lo hi c x y W ⟨-, -, -, h4⟩ hh
    subst h4
    exact ⟨[], fun s => rfl, fun z z' h => ⟨by rw [if_pos rfl] at h; exact h, rfl⟩⟩
  | succ k ih =>
    rintro lo hi c x y W ⟨m, v, x', y', W1, W2, h1, h2, h3, -, h5, h6⟩ hh
    have hv := hP _ _ _ _ _ h3
    obtain ⟨T, t1, t2⟩ := ih lo m c x' y' W1 h1 (by omega)
    refine ⟨T ++ (if F 221 v = 5 then [F 222 v] else []), fun s => ?_, fun z z' h => ?_⟩
    · rw [h5, sfo_app, t1, hX _ _ _ _ _ h3 hh, List.reverse_append]
      split
      · rfl
      · rfl
    · rw [if_neg (Nat.succ_ne_zero k)] at h
      have := LtZ.snoc (F := F) (u := v) (by omega) k z T (t2 z v (by
        by_cases e : k = 0
        · rw [if_pos e] at h6 ⊢; exact h.1.trans h6
        · rw [if_neg e] at h6 ⊢; exact ⟨h.1.trans h6.1, h6.2⟩))
      rw [← h.2, h2, Int.toNat_natCast]
      exact this
theorem Bk.sf {P : Nat → Nat → Nat → Nat → List Int → Prop} {lo hi c b : Nat} {W : List Int} (hP : ∀ a b c v W, P a b c v W → a ≤ v ∧ v < b) (hX : ∀ a b c v W, P a b c v W → b ≤ 1600 → Sf F v W) (h : Bk P F lo hi c b W) (hh : hi ≤ 1600) (s : SS) : sfo s W = s := by
  obtain ⟨-, -, k, t, e, cl, y, Ws, -, h1, -, -, -, h2⟩ := h
  obtain ⟨T, t1, -⟩ := SLq.sf hP hX _ _ _ _ _ _ _ h1 hh
  rw [h2]
  show sfo (sstep s (mk 3 t 0)) (Ws ++ [mk 4 e cl]) = s
  rw [sst_blk, sfo_app, t1]
  show sstep (T.reverse ++ [], s.1 :: s.2.1, s.2.2) (mk 4 e cl) = s
  unfold sstep
  rw [wo_mk (by decide), if_neg (by decide), if_neg (by decide), if_pos (by decide)]
theorem Sm.sf : ∀ (d lo hi c v : Nat) (W : List Int), Sm F K d lo hi c v W → hi ≤ 1600 → Sf F v W := by
  intro d
  induction d with
  | zero => intro lo hi c v W h; exact absurd h (fun h => h)
  | succ d ih =>
    intro lo hi c v W h hh s
    have hB : ∀ {lo hi c b : Nat} {W : List Int}, Bk (Sm F K d) F lo hi c b W → hi ≤ 1600 → ∀ s : SS, sfo s W = s := fun h1 h2 s => Bk.sf (Sm.rng d) ih h1 h2 s
    rcases h with ⟨o, kd, a, p, e, We, hk, h1, h2, h3, h4, h5, h6, rfl, h7⟩ | ⟨a, h1, -, -, -, rfl⟩ | ⟨a, W', h1, -, rfl, -⟩ | ⟨h1, -, a, b, m, We, W1, -, -, h2, -, -, -, h3, h4, h5⟩
    · show sfo (sstep s (mk 6 a 0)) (We ++ [mk o p e]) = _
      rw [sst_x (by decide) (by decide), sfo_app, h6.sf (by omega)]
      show sstep s (mk o p e) = _
      rw [h1, h5]
      rcases hk with ⟨rfl, rfl⟩ | ⟨rfl, rfl⟩ | ⟨rfl, rfl⟩ | ⟨rfl, rfl⟩
      · rw [sst_let h7]; rfl
      · rw [sst_x (by decide) (by decide)]; rfl
      · rw [sst_x (by decide) (by decide)]; rfl
      · rw [sst_x (by decide) (by decide)]; rfl
    · rw [h1]
      show sstep s (mk 13 a 0) = _
      rw [sst_x (by decide) (by decide)]
      rfl
    · rw [h1.1]
      show sfo (sstep s (mk 6 a 0)) W' = _
      rw [sst_x (by decide) (by decide), hB h1 hh]
      rfl
    · rw [h1]
      show sfo s W = (s.1, s.2)
      rcases h5 with ⟨-, h6, rfl⟩ | ⟨b2, p, W2, -, -, -, h6, h7, rfl⟩
      · show sfo (sstep s (mk 6 a 0)) (We ++ mk 11 a _ :: W1) = _
        rw [sst_x (by decide) (by decide), sfo_app, h2.sf (by have := Bk.rng (Sm.rng d) h3; omega)]
        show sfo (sstep s (mk 11 a _)) W1 = _
        rw [sst_x (by decide) (by decide), hB h3 (by omega)]
      · have r6 := Bk.rng (Sm.rng d) h6
        have r3 := Bk.rng (Sm.rng d) h3
        show sfo (sstep s (mk 6 a 0)) (We ++ mk 11 a _ :: (W1 ++ mk 12 p _ :: W2)) = _
        rw [sst_x (by decide) (by decide), sfo_app, h2.sf (by omega)]
        show sfo (sstep s (mk 11 a _)) (W1 ++ mk 12 p _ :: W2) = _
        rw [sst_x (by decide) (by decide), sfo_app, hB h3 (by omega)]
        show sfo (sstep s (mk 12 p _)) W2 = _
        rw [sst_x (by decide) (by decide), hB h6 hh]
theorem Sme.sf : ∀ a b c v W, Sme F K a b c v W → b ≤ 1600 → Sf F v W := fun _ _ _ _ _ ⟨d, h⟩ hh => Sm.sf d _ _ _ _ _ h hh
/-- what is declared in the blocks around -/
def OBo (F : MF) (S : List (Int × Int)) (b : Nat) (C : List Int) : Prop := ∃ (Bs : List (List Int)) (p n : Nat), sfo ss0 C = ([], Bs ++ [[]], (p : Int), (n : Int)) ∧ BL F (S.length - 1) Bs ∧ FnA F p n ∧ F 233 (S.length - 1) = (b : Int) ∧ b < 1600
theorem PD.sf {S : List (Int × Int)} {m v : Nat} {C2 : List Int} (h : PD (OB F K n0 Fn U S) F K (S.length - 1) m v C2) (hS : S ≠ []) (hv : v < 1600) (h5 : F 221 v ≠ 5) (ih : ∀ b lo C, OB F K n0 Fn U S b lo C → lo ≤ 1600 → OBo F S b C) :
    ∃ (Bs : List (List Int)) (p n : Nat) (T : List Int), sfo ss0 C2 = (T.reverse, Bs ++ [[]], (p : Int), (n : Int)) ∧ BL F S.length (T.reverse :: Bs) ∧ FnA F p n := by
  obtain ⟨b, lo, C1, k, x, y, W, h1, h2, h3, h4, -, h6, h7, -, h9⟩ := h
  have hlo := OB.low S b lo C1 h1
  obtain ⟨Bs, p, n, t1, t2, t3, t4, t5⟩ := ih b lo C1 h1 (by omega)
  obtain ⟨T, u1, u2⟩ := SLq.sf Sme.rng Sme.sf _ _ _ _ _ _ _ h2 (by omega)
  have hl : S.length = S.length - 1 + 1 := by
    cases S with
    | nil => exact absurd rfl hS
    | cons y S => rfl
  have hz : LtZ F (k + 1) (F 224 b) (F 227 v) (T ++ (if F 221 v = 5 then [F 222 v] else [])) := LtZ.snoc hv k _ _ (u2 _ _ (by
    unfold Lk at h6
    by_cases e : k = 0
    · rw [if_pos e] at h6 ⊢; exact h6
    · rw [if_neg e] at h6 ⊢; exact h6))
  rw [if_neg h5, List.append_nil, h7] at hz
  refine ⟨Bs, p, n, T, ?_, ?_, t3⟩
  · rw [h9, sfo_app, t1, u1]
    show (T.reverse ++ [], _) = _
    rw [List.append_nil]
  · rw [hl]
    exact ⟨T, Bs, rfl, ⟨b, k + 1, t4, t5, hz⟩, t2⟩
theorem OB.sf (hF : ∀ e ∈ Fn, ∃ q : Nat, q < 256 ∧ e.1 = (q : Int)) : ∀ (S : List (Int × Int)) (b lo : Nat) (C : List Int), OB F K n0 Fn U S b lo C → lo ≤ 1600 → OBo F S b C := by
  intro S
  induction S with
  | nil => intro b lo C h; exact absurd h (fun h => h)
  | cons z S ih =>
    obtain ⟨q, st⟩ := z
    rintro b lo C ⟨⟨h1, h2, h3, h4⟩, h⟩ hlo
    have fin : ∀ {m v : Nat} {C2 V : List Int} (t : Nat), PD (OB F K n0 Fn U S) F K (S.length - 1) m v C2 → v < 1600 → F 221 v ≠ 5 → C = C2 ++ V → (∀ s, sfo s V = sstep s (mk 3 t 0)) → OBo F ((q, st) :: S) b C := by
      intro m v C2 V t hp hv h5 hC hV
      have hS : S ≠ [] := by
        obtain ⟨b', lo', C1, _, _, _, _, k1, -⟩ := hp
        exact OB.ne S b' lo' C1 k1
      obtain ⟨Bs, p, n, T, t1, t2, t3⟩ := hp.sf hS hv h5 ih
      refine ⟨T.reverse :: Bs, p, n, ?_, t2, t3, h1, by omega⟩
      rw [hC, sfo_app, t1, hV, sst_blk]
      rfl
    rcases h with ⟨-, rfl, -, h5⟩ | ⟨-, -, m, a, C2, h5, -, -, h6⟩ | ⟨-, -, m, v, a, t, C2, We, h5, -, h7, -, -, h8, -, -, -, -, h9, -, h6, -⟩ | ⟨-, -, m, v, a, t, b1, m2, p, C2, We, W1, h5, -, h7, -, -, h8, -, -, -, h9, h10, -, -, -, -, h6, -⟩
    · obtain ⟨k, m, v, p, n, t, x, y, C1, Fn1, k1, -, -, -, k2, -, -, -, k3, -, k4, -, -, k5, k6⟩ := h5
      obtain ⟨q', q1, q2⟩ := hF ((p : Int), (n : Int), (C1.length : Int), -1) (by rw [k6]; exact List.mem_append_right _ (List.mem_singleton.mpr rfl))
      have hp : p < 256 := by change (p : Int) = (q' : Int) at q2; omega
      refine ⟨[], p, n, ?_, rfl, ⟨b, v, h1, by omega, k4, by omega, k3, hp⟩, h1, by omega⟩
      rw [k5, sfo_app]
      show sstep (sstep (sfo ss0 C1) (mk 2 p n)) (mk 3 t 0) = _
      rw [sst_blk]
      unfold sstep
      rw [wo_mk (by decide), if_pos (by decide), wt_mk (by decide) hp, we_mk (by decide) hp]
      rfl
    · refine fin a h5 (by omega) (by rw [h2]; decide) h6 (fun s => ?_)
      show sstep (sstep s (mk 6 a 0)) (mk 3 a 0) = _
      rw [sst_x (o := 6) (by decide) (by decide)]
    · refine fin t h5 (by omega) (by rw [h7]; decide) h6 (fun s => ?_)
      show sfo (sstep s (mk 6 a 0)) (We ++ [mk 11 a 0, mk 3 t 0]) = _
      rw [sst_x (by decide) (by decide), sfo_app, h8.sf (by omega)]
      show sstep (sstep s (mk 11 a 0)) (mk 3 t 0) = _
      rw [sst_x (o := 11) (by decide) (by decide)]
    · have r9 := Bk.rng Sme.rng h9
      refine fin t h5 (by omega) (by rw [h7]; decide) h6 (fun s => ?_)
      show sfo (sstep s (mk 6 a 0)) (We ++ mk 11 a _ :: (W1 ++ [mk 12 p 0, mk 3 t 0])) = _
      rw [sst_x (by decide) (by decide), sfo_app, h8.sf (by omega)]
      show sfo (sstep s (mk 11 a _)) (W1 ++ [mk 12 p 0, mk 3 t 0]) = _
      rw [sst_x (by decide) (by decide), sfo_app, Bk.sf Sme.rng Sme.sf h9 (by omega)]
      show sstep (sstep s (mk 12 p 0)) (mk 3 t 0) = _
      rw [sst_x (o := 12) (by decide) (by decide)]
theorem CU.sf {S : List (Int × Int)} {C : List Int} {N : Nat} (hF : ∀ e ∈ Fn, ∃ q : Nat, q < 256 ∧ e.1 = (q : Int)) (h : CU F K n0 S C Fn U N) (hN : N ≤ 1600) :
    ∃ (Bs : List (List Int)) (p n : Nat), nms (sfo ss0 C) = Bs.flatten ∧ (sfo ss0 C).2.2 = ((p : Int), (n : Int)) ∧ BL F S.length Bs ∧ FnA F p n := by
  obtain ⟨b, lo, C1, k, x, y, W, h1, h2, h3, -, h5, h6⟩ := h
  have hlo := OB.low S b lo C1 h1
  have hS := OB.ne S b lo C1 h1
  have r2 := SLq.rng Sme.rng _ _ _ _ _ _ _ h2
  obtain ⟨Bs, p, n, t1, t2, t3, t4, t5⟩ := OB.sf hF S b lo C1 h1 (by omega)
  obtain ⟨T, u1, u2⟩ := SLq.sf Sme.rng Sme.sf _ _ _ _ _ _ _ h2 hN
  have hl : S.length = S.length - 1 + 1 := by
    cases S with
    | nil => exact absurd rfl hS
    | cons y S => rfl
  have e : sfo ss0 C = (T.reverse, Bs ++ [[]], (p : Int), (n : Int)) := by
    rw [h6, sfo_app, t1, u1]
    show (T.reverse ++ [], _) = _
    rw [List.append_nil]
  refine ⟨T.reverse :: Bs, p, n, ?_, by rw [e], ?_, t3⟩
  · rw [e]
    show T.reverse ++ (Bs ++ [[]]).flatten = T.reverse ++ Bs.flatten
    rw [List.flatten_append]
    show T.reverse ++ (Bs.flatten ++ ([] ++ [])) = _
    rw [List.append_nil, List.append_nil]
  · rw [hl]
    refine ⟨T, Bs, rfl, ⟨b, k, t4, t5, u2 _ _ ?_⟩, t2⟩
    split
    · next e0 => rw [h3]; omega
    · next e0 => exact ⟨h3, h5 (by omega)⟩
end Mi1
