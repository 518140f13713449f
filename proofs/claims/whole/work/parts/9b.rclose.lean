/-! READING, OF THE REFERENCE: a block is closed -/
section M9b
variable {F F' : MF} {K : List Int} {n0 N a : Nat} {S : List (Int × Int)} {C : List Int} {E : EE} {Fn : FF} {U : List Int}
theorem gx_mid (A B : List Int) (w : Int) : gx (A ++ w :: B) A.length = w := by
  rw [gx_app, if_neg (by omega), Nat.sub_self, gx_cons, if_pos rfl]
theorem set_mid (A B : List Int) (w v : Int) : (A ++ w :: B).set A.length v = A ++ v :: B := by
  rw [List.set_append_right _ _ (Nat.le_refl _), Nat.sub_self]
  rfl
theorem aim_at {A B : List Int} {o t x p : Nat} {st : Int} (ho : o < 256) (ht : t < 256) (hs : st = (A.length : Int)) : aim (A ++ mk o t x :: B) st p = A ++ mk o t p :: B := by
  unfold aim
  rw [hs, if_pos ⟨by omega, by rw [List.length_append, List.length_cons]; omega⟩, Int.toNat_natCast, gx_mid, set_mid]
  congr 2
  unfold mk
  omega
/-- an IF whose first block is closed -/
def IFD (F : MF) (K : List Int) (n0 : Nat) (S : List (Int × Int)) (C : List Int) (Fn : FF) (U : List Int) (N : Nat) (st : Int) : Prop :=
  ∃ (m v a b : Nat) (We W1 C2 : List Int), PD (OB F K n0 Fn U S) F K (S.length - 1) m v C2 ∧ v < N ∧ F 221 v = 10 ∧ F 222 v = (a : Int) ∧ F 223 v = (a : Int) ∧ Xp F K m v (F 224 v) We ∧ F 225 v = (b : Int) ∧ F 226 v = -1 ∧ F 226 b = (v : Int) ∧ F 229 b = F 229 v ∧
    Bk (Sme F K) F (v + 1) N (C2.length + We.length + 2) b W1 ∧ C = C2 ++ mk 6 a 0 :: (We ++ mk 11 a 0 :: W1) ∧ st = ((C2.length + 1 + We.length : Nat) : Int) ∧ a < 256 ∧ F 236 S.length = (v : Int)
theorem IFD.shut {st : Int} (h : IFD F K n0 S C Fn U N st) : CU F K n0 S (aim C st C.length) Fn U N := by
  obtain ⟨m, v, a, b, We, W1, C2, g1, g2, g3, g4, g5, g6, g7, g8, g9, g10, g11, rfl, g13, g14, g15⟩ := h
  have e : C2 ++ mk 6 a 0 :: (We ++ mk 11 a 0 :: W1) = (C2 ++ mk 6 a 0 :: We) ++ mk 11 a 0 :: W1 := by simp only [List.append_assoc, List.cons_append]
  have r := g1.rng
  have hl : (C2 ++ mk 6 a 0 :: (We ++ mk 11 a 0 :: W1)).length = C2.length + We.length + 2 + W1.length := by
    simp only [List.length_append, List.length_cons]; omega
  rw [hl, e, aim_at (by decide) g14 (by rw [g13]; simp only [List.length_append, List.length_cons]; omega)]
  have e2 : (C2 ++ mk 6 a 0 :: We) ++ mk 11 a (C2.length + We.length + 2 + W1.length) :: W1 = C2 ++ (mk 6 a 0 :: (We ++ mk 11 a (C2.length + We.length + 2 + W1.length) :: W1)) := by simp only [List.append_assoc, List.cons_append]
  rw [e2]
  exact g1.done (Sme.ifs g3 r.2.2.1 g4 g5 g6 g7 g9 g10 g11 g8 (Nat.le_refl _) g14) rfl
/-- the innermost block is closed: what becomes of the levels -/
theorem CU.close {q st x1 : Int} {e cl b : Nat} (h : CU F K n0 ((q, st) :: S) C Fn U N) (hb : F 233 S.length = (b : Int)) (h1 : F' 228 b = x1) (h2 : ∀ c i, 221 ≤ c → c ≤ 229 → i < N → ¬ (c = 228 ∧ i = b) → F' c i = F c i)
    (h3 : ∀ c i, 233 ≤ c → c ≤ 236 → i < S.length + 1 → F' c i = F c i) (h4 : F' 201 48 = F 201 48) (h5 : F' 201 49 = F 201 49) (hcl : cl ≤ 1) (hx : x1 = (if cl = 1 then (e : Int) else -1)) :
    (q = 0 ∧ S = [] ∧ F' 235 S.length = 0 ∧ CIt F' K n0 (C ++ [mk 4 e cl] ++ [mk 5 0 0]) (setLast Fn x1) U N) ∨ (q = 1 ∧ F' 235 S.length = 3 ∧ CU F' K n0 S (C ++ [mk 4 e cl]) Fn U N) ∨
    (q = 2 ∧ F' 235 S.length = 1 ∧ IFD F' K n0 S (C ++ [mk 4 e cl]) Fn U N st) ∨ (q = 3 ∧ F' 235 S.length = 2 ∧ CU F' K n0 S (aim (C ++ [mk 4 e cl]) st (C.length + 1)) Fn U N) := by
  obtain ⟨b', lo, C1, k, x, y, W, g1, g2, g3, g4, g5, rfl⟩ := h
  obtain ⟨⟨o1, o2, o3, rfl⟩, g1⟩ := g1
  obtain rfl : b' = b := by rw [o1] at hb; omega
  have r := SLq.rng Sme.rng _ _ _ _ _ _ _ g2
  have nb : ∀ c, 221 ≤ c → c ≤ 229 → c ≠ 228 → F' c b' = F c b' := fun c x y z => h2 c b' x y (by omega) (by omega)
  have nl : ∀ c i, 221 ≤ c → c ≤ 229 → i < b' → F' c i = F c i := fun c i x y z => h2 c i x y (by omega) (by omega)
  have w : ∀ c, 233 ≤ c → c ≤ 236 → F' c S.length = F c S.length := fun c x y => h3 c _ x y (by omega)
  -- the block
  have bk : ∀ (t lo c : Nat), F 222 b' = (t : Int) → lo ≤ b' → c + 1 = C1.length → Bk (Sme F' K) F' lo N c b' (mk 3 t 0 :: (W ++ [mk 4 e cl])) := by
    intro t lo c e1 e2 e3
    refine ⟨(nb 221 (by decide) (by decide) (by decide)).trans o2, e2, k, t, e, cl, y, W, (nb 222 (by decide) (by decide) (by decide)).trans e1, ?_, fun hy => ?_, hcl, h1.trans hx, rfl⟩
    · rw [e3, nb 224 (by decide) (by decide) (by decide), g3]
      exact SLq.cong Sme.rng Sme.cong _ _ _ _ _ _ _ g2 (fun c i x y z u _ => h2 c i x y u (by omega))
    · rw [h2 227 y.toNat (by decide) (by decide) (by omega) (by omega)]
      exact g5 hy
  have pd : ∀ m v C2, m ≤ b' → v ≤ b' → PD (OB F K n0 Fn U S) F K (S.length - 1) m v C2 → PD (OB F' K n0 Fn U S) F' K (S.length - 1) m v C2 := by
    intro m v C2 hm hv hp
    have r := hp.rng
    have hpos : 0 < S.length := List.length_pos_iff.mpr r.1
    exact hp.cong (fun b0 lo0 C0 g e1 e2 e3 => OB.cong _ _ _ _ g (fun c i x y z _ => e3 c i x y z) (fun c i x y z _ => h3 c i x y (by omega)) h4 h5) (fun b0 lo0 C0 g => OB.low _ _ _ _ g) (fun c j x y z => nl c j x y (by omega)) (h3 234 _ (by decide) (by decide) (by omega)) (h2 227 v (by decide) (by decide) (by omega) (by omega)) (h2 229 v (by decide) (by decide) (by omega) (by omega))
  rcases g1 with ⟨e1, e2, e3, e4⟩ | ⟨e1, e2, m, a, C2, e3, e4, e5, e6⟩ | ⟨e1, e2, m, v, a, t, C2, We, e3, e4, e5, e6, e7, e8, e9, e10, e11, e12, e13, e14, e15, e16, e17⟩ | ⟨e1, e2, m, v, a, t, b1, m2, p, C2, We, W1, e3, e4, e5, e6, e7, e8, e9, e10, e11, e12, e13, e14, e15, e16, e17, e18, e19, e20⟩
  · refine Or.inl ⟨e1, e2, (w 235 (by decide) (by decide)).trans e3, ?_⟩
    obtain ⟨k', m, v, p, n, t, x', y', C1', Fn1, i1, i2, i3, i4, i5, i6, i7, i8, i9, i10, i11, i12, i13, i14, i15⟩ := e4
    have ri := IL.rng _ _ _ _ _ _ _ i1
    have el : C1'.length + 1 + 1 = C1.length := by rw [i14, List.length_append]; rfl
    rw [i15, setLast_app]
    refine ⟨k' + 1, F 201 48, (v : Int), ⟨m, v, x', y', C1', mk 2 p n :: (mk 3 t 0 :: (W ++ [mk 4 e cl]) ++ [mk 5 0 0]), Fn1, U, IL.cong _ _ _ _ _ _ _ i1 (fun c i x y _ z _ => nl c i x y (by omega)), rfl, ?_, i4, by omega, ?_,
      Or.inr ⟨p, n, b', mk 3 t 0 :: (W ++ [mk 4 e cl]), (nl 221 v (by decide) (by decide) (by omega)).trans i6, (nl 222 v (by decide) (by decide) (by omega)).trans i7, i9.cong (nl 224 v (by decide) (by decide) (by omega)) (fun c i x y z u => nl c i x (by omega) (by omega)), (nl 225 v (by decide) (by decide) (by omega)).trans i10, (nb 226 (by decide) (by decide) (by decide)).trans i11, (nb 229 (by decide) (by decide) (by decide)).trans i12, bk t _ _ i13 (by omega) el, rfl, by rw [h1], rfl⟩⟩, h4, h5.trans i2, fun _ => ?_⟩
    · rw [i14]; simp only [List.append_assoc, List.cons_append, List.nil_append]
    · by_cases e0 : k' = 0
      · rw [if_pos e0] at i3 ⊢; exact i3
      · rw [if_neg e0] at i3 ⊢
        exact ⟨i3.1, (nl 227 _ (by decide) (by decide) (by omega)).trans i3.2⟩
    · rw [Int.toNat_natCast, nl 227 v (by decide) (by decide) (by omega)]; exact i8
  · refine Or.inr (Or.inl ⟨e1, (w 235 (by decide) (by decide)).trans e2, ?_⟩)
    have hm := e3.rng.2.2.1
    have el : C2.length + 1 + 1 = C1.length := by rw [e6, List.length_append]; rfl
    have hp := pd m b' C2 hm (Nat.le_refl _) e3
    have hb := bk a m (C2.length + 1) e5 hm el
    have := hp.done (N := N) (Sme.block (a := a) hb ((nb 226 (by decide) (by decide) (by decide)).trans e4) ((nb 222 (by decide) (by decide) (by decide)).trans e5)) rfl
    rw [e6]
    simp only [List.append_assoc, List.cons_append, List.nil_append] at this ⊢
    exact this
  · refine Or.inr (Or.inr (Or.inl ⟨e1, (w 235 (by decide) (by decide)).trans e2, ⟨m, v, a, b', We, mk 3 t 0 :: (W ++ [mk 4 e cl]), C2, pd m v C2 (by have := e3.rng; omega) (by omega) e3, by omega, (nl 221 v (by decide) (by decide) e13).trans e5, (nl 222 v (by decide) (by decide) e13).trans e6, (nl 223 v (by decide) (by decide) e13).trans e7, ?_, (nl 225 v (by decide) (by decide) e13).trans e9, (nl 226 v (by decide) (by decide) e13).trans e10, (nb 226 (by decide) (by decide) (by decide)).trans e11, ?_, bk t _ _ e14 (by omega) (by rw [e15]; simp only [List.length_append, List.length_cons, List.length_nil]; omega), ?_, e16, e17, (w 236 (by decide) (by decide)).trans e4⟩⟩))
    · rw [nl 224 v (by decide) (by decide) e13]
      exact e8.cong (fun c i x y _ z _ => nl c i x y (by omega))
    · rw [nb 229 (by decide) (by decide) (by decide), nl 229 v (by decide) (by decide) e13]; exact e12
    · rw [e15]; simp only [List.append_assoc, List.cons_append, List.nil_append]
  · have hm := e3.rng.2.2.1
    have g := e12.rng Sme.rng
    refine Or.inr (Or.inr (Or.inr ⟨e1, (w 235 (by decide) (by decide)).trans e2, ?_⟩))
    have hp := pd m v C2 (by omega) (by omega) e3
    have hB := bk t m2 (C2.length + We.length + 3 + W1.length) e17 e13 (by rw [e18]; simp only [List.length_append, List.length_cons, List.length_nil]; omega)
    have nv : ∀ c, 221 ≤ c → c ≤ 229 → F' c v = F c v := fun c x y => nl c v x y (by omega)
    have hX : Xp F' K m v (F' 224 v) We := by
      rw [nv 224 (by decide) (by decide)]
      exact e8.cong (fun c i x y _ z _ => nl c i x y (by omega))
    have hB1 := e12.cong (F' := F') Sme.rng Sme.cong (fun c i x y _ z _ => nl c i x y (by omega))
    have h29 : F' 229 b1 = F' 229 v := by rw [nl 229 b1 (by decide) (by decide) (by omega), nv 229 (by decide) (by decide)]; exact e11
    have h29b : F' 229 b' = F' 229 v := by rw [nb 229 (by decide) (by decide) (by decide), nv 229 (by decide) (by decide)]; exact e16
    have hd := hp.done (N := N) (Sme.ifelse (p := p) ((nv 221 (by decide) (by decide)).trans e5) hm ((nv 222 (by decide) (by decide)).trans e6) ((nv 223 (by decide) (by decide)).trans e7) hX ((nv 225 (by decide) (by decide)).trans e9) ((nl 226 b1 (by decide) (by decide) (by omega)).trans e10) h29 hB1 ((nv 226 (by decide) (by decide)).trans e14) ((nb 226 (by decide) (by decide) (by decide)).trans e15) h29b hB e20.2 e20.1) rfl
    have e0 : C1 ++ W ++ [mk 4 e cl] = (C2 ++ mk 6 a 0 :: (We ++ mk 11 a (C2.length + We.length + 3 + W1.length) :: W1)) ++ mk 12 p 0 :: (mk 3 t 0 :: (W ++ [mk 4 e cl])) := by
      rw [e18]; simp only [List.append_assoc, List.cons_append, List.nil_append]
    have el : (C1 ++ W).length + 1 = C2.length + We.length + 3 + W1.length + (mk 3 t 0 :: (W ++ [mk 4 e cl])).length := by
      rw [e18]; simp only [List.length_append, List.length_cons, List.length_nil]; omega
    rw [e0, el, aim_at (by decide) e20.1 (by rw [e19]; simp only [List.length_append, List.length_cons]; omega)]
    simp only [List.append_assoc, List.cons_append, List.nil_append] at hd ⊢
    exact hd
end M9b
