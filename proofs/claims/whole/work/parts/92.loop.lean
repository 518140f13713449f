/-! READING, OF THE REFERENCE: what holds of the levels while an expr is read -/
def JL (K : List Int) (a : Nat) (l : Lv) : Prop := LvK K l ∧ 0 ≤ opn l ∧ 0 ≤ szs l ∧ (shp l = 2 → opn l + 2 ≤ (a : Int))
def JS (K : List Int) (a0 a : Nat) (L : List Lv) : Prop := (∀ l ∈ L, JL K a l) ∧ PQs L + L.length + a0 ≤ a + 1
def JB (K : List Int) (a : Nat) (l : Lv) : Prop := shp l = 2 → (kn K (a - 1) = 10 ↔ (a : Int) = opn l + 2) ∧ ((a : Int) = opn l + 2 → nts l = -1 ∧ pl l = [])
section M92
variable {K : List Int} {a0 a : Nat} {C : List Int} {l : Lv} {r : List Lv} {L : List Lv}
theorem JL.le {b : Nat} (h : JL K a l) (hb : a ≤ b) : JL K b l := ⟨h.1, h.2.1, h.2.2.1, fun e => by have := h.2.2.2 e; omega⟩
theorem JS.le {b : Nat} (h : JS K a0 a L) (hb : a ≤ b) : JS K a0 b L := ⟨fun l hl => (h.1 l hl).le hb, by have := h.2; omega⟩
theorem LvK.lv0 {s o : Int} : LvK K (lv0 s o) := ⟨Or.inl rfl, Or.inl rfl, Or.inl rfl, Int.le_refl _⟩
theorem xop_rng (K : List Int) (a : Nat) (l : Lv) (r : List Lv) (C : List Int) : (xop K a l r C).1 = 0 ∨ (xop K a l r C).1 = 1 ∨ (xop K a l r C).1 = 2 ∨ (xop K a l r C).1 = 4 := by
  unfold xop
  repeat' split
  all_goals simp
theorem xop_app (b : List Lv) : xop K a l (r ++ b) C = ((xop K a l r C).1, (xop K a l r C).2.1, (xop K a l r C).2.2.1 ++ b, (xop K a l r C).2.2.2) := by
  unfold xop
  repeat' split
  all_goals rfl
def xs2 (y : XS) (b : List Lv) : XS := (y.1, y.2.1, y.2.2.1 ++ b, y.2.2.2)
theorem ite_xs2 {c : Prop} [Decidable c] {b : List Lv} {y z y' z' : XS} (h1 : y = xs2 y' b) (h2 : z = xs2 z' b) : (if c then y else z) = xs2 (if c then y' else z') b := by
  by_cases h : c
  · rw [if_pos h, if_pos h]; exact h1
  · rw [if_neg h, if_neg h]; exact h2
theorem xcl_app (b : List Lv) : xcl K a l (r ++ b) C = xs2 (xcl K a l r C) b := by
  unfold xcl
  exact ite_xs2 rfl (ite_xs2 (ite_xs2 rfl (ite_xs2 rfl rfl)) (ite_xs2 rfl rfl))
theorem xbh_app (b : List Lv) : xbh K a l (r ++ b) C = ((xbh K a l r C).1, (xbh K a l r C).2.1, (xbh K a l r C).2.2.1 ++ b, (xbh K a l r C).2.2.2) := by
  show _ = xs2 (xbh K a l r C) b
  unfold xbh xb2 xb3
  exact ite_xs2 rfl (ite_xs2 rfl (ite_xs2 (ite_xs2 rfl (xcl_app b)) (xcl_app b)))
/-- of what xop leaves -/
def XO (K : List Int) (a0 a : Nat) (l : Lv) (r : List Lv) (b : List Lv) (C : List Int) (y : XS) : Prop :=
  (y.1 = 1 → JS K a0 y.2.1 (y.2.2.1 ++ b) ∧ JB K y.2.1 (hdl (y.2.2.1 ++ b)) ∧ a < y.2.1 ∧ y.2.1 ≤ K.length ∧ y.2.2.1 ≠ []) ∧
  (y.1 = 2 → y.2.1 = a + 1 ∧ y.2.2.1 = l :: r ∧ a < K.length) ∧ (y.1 = 4 → y.2.1 = a ∧ y.2.2.1 = l :: r ∧ a < K.length ∧ shp l = 2 ∧ y.2.2.2 = C) ∧ (y.1 = 0 → y.2.1 = a)
theorem xop_J (b : List Lv) (hJ : JS K a0 a (l :: r ++ b)) (hB : JB K a l) : XO K a0 a l r b C (xop K a l r C) := by
  have hl := hJ.1 l List.mem_cons_self
  have hc : PQs (l :: r ++ b) + (l :: r ++ b).length + a0 ≤ a + 1 := hJ.2
  unfold xop
  split
  · next h =>
    have hlt : a < K.length := kn_lt (by omega)
    refine ⟨fun _ => ⟨⟨fun l' hl' => ?_, ?_⟩, fun e => ?_, Nat.lt_succ_self a, by show a + 1 ≤ _; omega, by simp⟩, fun e => absurd (show (1 : Nat) = 2 from e) (by decide), fun e => absurd (show (1 : Nat) = 4 from e) (by decide), fun e => absurd (show (1 : Nat) = 0 from e) (by decide)⟩
    · rcases List.mem_cons.mp hl' with h2 | h2
      · rw [h2]
        exact ⟨⟨hl.1.1, hl.1.2.1, hl.1.2.2.1, by show (-1 : Int) ≤ (a : Int); omega⟩, hl.2.1, hl.2.2.1, fun e => by have := hl.2.2.2 e; show opn l + 2 ≤ ((a + 1 : Nat) : Int); omega⟩
      · exact (hJ.1 l' (List.mem_cons_of_mem _ h2)).le (by show a ≤ a + 1; omega)
    · show pq l + PQs (r ++ b) + ((r ++ b).length + 1) + a0 ≤ a + 1 + 1
      change pq l + PQs (r ++ b) + ((r ++ b).length + 1) + a0 ≤ a + 1 at hc
      omega
    · have h1 := hl.2.2.2 e
      have h2 : ((a + 1 : Nat) : Int) ≠ opn l + 2 := by omega
      refine ⟨⟨fun e2 => ?_, fun e2 => absurd e2 h2⟩, fun e2 => absurd e2 h2⟩
      change kn K (a + 1 - 1) = 10 at e2
      rw [Nat.add_sub_cancel] at e2
      omega
  · split
    · next h =>
      have hlt : a + 1 < K.length := kn_lt (by omega)
      refine ⟨fun _ => ⟨⟨fun l' hl' => ?_, ?_⟩, fun e => ?_, by show a < a + 2; omega, by show a + 2 ≤ _; omega, by simp⟩, fun e => absurd (show (1 : Nat) = 2 from e) (by decide), fun e => absurd (show (1 : Nat) = 4 from e) (by decide), fun e => absurd (show (1 : Nat) = 0 from e) (by decide)⟩
      · rcases List.mem_cons.mp hl' with h2 | h2
        · rw [h2]
          exact ⟨LvK.lv0, by show (0 : Int) ≤ (a : Int); omega, Int.le_refl 0, fun _ => by show (a : Int) + 2 ≤ ((a + 2 : Nat) : Int); omega⟩
        · exact (hJ.1 l' h2).le (by show a ≤ a + 2; omega)
      · show 0 + PQs (l :: r ++ b) + ((l :: r ++ b).length + 1) + a0 ≤ a + 2 + 1
        omega
      · refine ⟨⟨fun _ => ?_, fun _ => ?_⟩, fun _ => ⟨rfl, rfl⟩⟩
        · show ((a + 2 : Nat) : Int) = (a : Int) + 2
          omega
        · show kn K (a + 2 - 1) = 10
          rw [show a + 2 - 1 = a + 1 by omega]
          exact h.2
    · split
      · next h =>
        have hlt : a < K.length := kn_lt (by omega)
        refine ⟨fun _ => ⟨⟨fun l' hl' => ?_, ?_⟩, fun e => absurd (show (1 : Int) = 2 from e) (by decide), by show a < a + 1; omega, by show a + 1 ≤ _; omega, by simp⟩, fun e => absurd (show (1 : Nat) = 2 from e) (by decide), fun e => absurd (show (1 : Nat) = 4 from e) (by decide), fun e => absurd (show (1 : Nat) = 0 from e) (by decide)⟩
        · rcases List.mem_cons.mp hl' with h2 | h2
          · rw [h2]
            exact ⟨LvK.lv0, by show (0 : Int) ≤ (a : Int); omega, Int.le_refl 0, fun e => absurd (show (1 : Int) = 2 from e) (by decide)⟩
          · exact (hJ.1 l' h2).le (by show a ≤ a + 1; omega)
        · show 0 + PQs (l :: r ++ b) + ((l :: r ++ b).length + 1) + a0 ≤ a + 1 + 1
          omega
      · split
        · next h =>
          exact ⟨fun e => absurd (show (4 : Nat) = 1 from e) (by decide), fun e => absurd (show (4 : Nat) = 2 from e) (by decide), fun _ => ⟨rfl, rfl, kn_lt (by omega), h.2.1, rfl⟩, fun e => absurd (show (4 : Nat) = 0 from e) (by decide)⟩
        · split
          · next h =>
            exact ⟨fun e => absurd (show (2 : Nat) = 1 from e) (by decide), fun _ => ⟨rfl, rfl, kn_lt (by omega)⟩, fun e => absurd (show (2 : Nat) = 4 from e) (by decide), fun e => absurd (show (2 : Nat) = 0 from e) (by decide)⟩
          · exact ⟨fun e => absurd (show (0 : Nat) = 1 from e) (by decide), fun e => absurd (show (0 : Nat) = 2 from e) (by decide), fun e => absurd (show (0 : Nat) = 4 from e) (by decide), fun _ => rfl⟩
/-- of what xbh leaves -/
def XB (K : List Int) (a0 a : Nat) (l : Lv) (r : List Lv) (b : List Lv) (C : List Int) (y : XS) : Prop :=
  (y.1 = 0 ∨ y.1 = 1 ∨ y.1 = 3 ∨ y.1 = 4) ∧
  (y.1 = 1 → JS K a0 y.2.1 (y.2.2.1 ++ b) ∧ JB K y.2.1 (hdl (y.2.2.1 ++ b)) ∧ a < y.2.1 ∧ y.2.1 ≤ K.length ∧ y.2.2.1 ≠ []) ∧
  (y.1 = 4 → y.2.1 = a ∧ (∃ l', y.2.2.1 = l' :: r ∧ shp l' = shp l ∧ opn l' = opn l) ∧ a < K.length ∧ shp l ≠ 0) ∧
  (y.1 = 3 → y.2.1 = a ∧ shp l = 0 ∧ y.2.2.2 = C ++ wd 16 (nts l) ++ (wd 17 (tms l) ++ wd 17 (ads l) ++ wd 17 (cps l))) ∧ (y.1 = 0 → y.2.1 = a)
theorem XB.one {b : List Lv} {l' : Lv} {C' : List Int} (hJ : JS K a0 a (l :: r ++ b)) (h1 : LvK K l') (h2 : shp l' = shp l) (h3 : opn l' = opn l) (h4 : 0 ≤ szs l') (h5 : pq l' ≤ pq l + 1) (hk : kn K a ≠ 10) (hk2 : kn K a ≠ 24) :
    XB K a0 a l r b C (1, a + 1, l' :: r, C') := by
  have hl := hJ.1 l List.mem_cons_self
  have hc : PQs (l :: r ++ b) + (l :: r ++ b).length + a0 ≤ a + 1 := hJ.2
  have hlt : a < K.length := kn_lt hk2
  refine ⟨Or.inr (Or.inl rfl), fun _ => ⟨⟨fun l2 hl' => ?_, ?_⟩, fun e => ?_, Nat.lt_succ_self a, by show a + 1 ≤ _; omega, by simp⟩, fun e => absurd (show (1 : Nat) = 4 from e) (by decide), fun e => absurd (show (1 : Nat) = 3 from e) (by decide), fun e => absurd (show (1 : Nat) = 0 from e) (by decide)⟩
  · rcases List.mem_cons.mp hl' with h6 | h6
    · rw [h6]
      refine ⟨h1, by rw [h3]; exact hl.2.1, h4, fun e => ?_⟩
      rw [h2] at e
      have := hl.2.2.2 e
      rw [h3]
      show opn l + 2 ≤ ((a + 1 : Nat) : Int)
      omega
    · exact (hJ.1 l2 (List.mem_cons_of_mem _ h6)).le (by show a ≤ a + 1; omega)
  · show pq l' + PQs (r ++ b) + ((r ++ b).length + 1) + a0 ≤ a + 1 + 1
    change pq l + PQs (r ++ b) + ((r ++ b).length + 1) + a0 ≤ a + 1 at hc
    omega
  · change shp l' = 2 at e
    rw [h2] at e
    have h1 := hl.2.2.2 e
    have h2 : ((a + 1 : Nat) : Int) ≠ opn l' + 2 := by rw [h3]; omega
    refine ⟨⟨fun e2 => ?_, fun e2 => absurd e2 h2⟩, fun e2 => absurd e2 h2⟩
    change kn K (a + 1 - 1) = 10 at e2
    rw [Nat.add_sub_cancel] at e2
    exact absurd e2 hk
theorem xbh_J (b : List Lv) (hJ : JS K a0 a (l :: r ++ b)) : XB K a0 a l r b C (xbh K a l r C) := by
  have hl := hJ.1 l List.mem_cons_self
  have hsz : 0 ≤ szs l := hl.2.2.1
  have na := pn1_nat a
  by_cases hp : 1 < rk (kn K a) ∨ rk (kn K a) = 1 ∧ cps l = -1
  · unfold xbh xb2 xb3
    by_cases k1 : kn K a = 21
    · rw [if_pos k1]
      refine XB.one hJ ⟨Or.inr ⟨by show (0 : Int) ≤ (a : Int); omega, by show kn K ((a : Int)).toNat = 21; rw [Int.toNat_natCast]; exact k1⟩, hl.1.2.1, hl.1.2.2.1, Int.le_refl _⟩ rfl rfl hsz ?_ (by omega) (by omega)
      show pn1 (a : Int) + pn1 (ads l) + pn1 (cps l) ≤ pn1 (tms l) + pn1 (ads l) + pn1 (cps l) + 1
      omega
    · rw [if_neg k1]
      by_cases k2 : kn K a = 19 ∨ kn K a = 20
      · rw [if_pos k2]
        refine XB.one hJ ⟨Or.inl rfl, Or.inr ⟨by show (0 : Int) ≤ (a : Int); omega, by show kn K ((a : Int)).toNat = 19 ∨ kn K ((a : Int)).toNat = 20; rw [Int.toNat_natCast]; exact k2⟩, hl.1.2.2.1, Int.le_refl _⟩ rfl rfl hsz ?_ (by omega) (by omega)
        show 0 + pn1 (a : Int) + pn1 (cps l) ≤ pn1 (tms l) + pn1 (ads l) + pn1 (cps l) + 1
        omega
      · have h3 : rk (kn K a) = 1 ∧ cps l = -1 := by
          rcases hp with hp | hp
          · have := rk_hi hp
            omega
          · exact hp
        have k3 := rk_lo h3.1
        rw [if_neg k2, if_pos h3.2, if_pos k3]
        refine XB.one hJ ⟨Or.inl rfl, Or.inl rfl, Or.inr ⟨by show (0 : Int) ≤ (a : Int); omega, by show kn K ((a : Int)).toNat = 17 ∨ kn K ((a : Int)).toNat = 18; rw [Int.toNat_natCast]; exact k3⟩, Int.le_refl _⟩ rfl rfl hsz ?_ (by omega) (by omega)
        show 0 + 0 + pn1 (a : Int) ≤ pn1 (tms l) + pn1 (ads l) + pn1 (cps l) + 1
        omega
  · rw [xbh_no hp]
    have hzero : ∀ l' C', XB K a0 a l r b C (0, a, l' :: r, C') := fun l' C' => ⟨Or.inl rfl, fun e => absurd (show (0 : Nat) = 1 from e) (by decide), fun e => absurd (show (0 : Nat) = 4 from e) (by decide), fun e => absurd (show (0 : Nat) = 3 from e) (by decide), fun _ => rfl⟩
    have hfour : ∀ l' C', shp l ≠ 0 → kn K a = 11 → shp l' = shp l → opn l' = opn l → XB K a0 a l r b C (4, a, l' :: r, C') := fun l' C' e5 e0 e1 e2 => ⟨Or.inr (Or.inr (Or.inr rfl)), fun e => absurd (show (4 : Nat) = 1 from e) (by decide), fun _ => ⟨rfl, ⟨l', rfl, e1, e2⟩, kn_lt (by omega), e5⟩, fun e => absurd (show (4 : Nat) = 3 from e) (by decide), fun e => absurd (show (4 : Nat) = 0 from e) (by decide)⟩
    unfold xcl
    by_cases s0 : shp l = 0
    · rw [if_pos (show shp l = 0 from s0)]
      exact ⟨Or.inr (Or.inr (Or.inl rfl)), fun e => absurd (show (3 : Nat) = 1 from e) (by decide), fun e => absurd (show (3 : Nat) = 4 from e) (by decide), fun _ => ⟨rfl, s0, rfl⟩, fun e => absurd (show (3 : Nat) = 0 from e) (by decide)⟩
    · rw [if_neg (show ¬ shp l = 0 from s0)]
      by_cases s2 : shp l = 2
      · rw [if_pos (show shp l = 2 from s2)]
        by_cases k14 : kn K a = 14
        · rw [if_pos k14]
          refine XB.one hJ ⟨Or.inl rfl, Or.inl rfl, Or.inl rfl, Int.le_refl _⟩ rfl rfl (by show (0 : Int) ≤ szs l + 1; omega) ?_ (by omega) (by omega)
          show 0 + 0 + 0 ≤ pq l + 1
          omega
        · rw [if_neg k14]
          split
          · next k11 => exact hfour _ _ s0 k11 rfl rfl
          · exact hzero _ _
      · rw [if_neg (show ¬ shp l = 2 from s2)]
        split
        · next k11 => exact hfour _ _ s0 k11 rfl rfl
        · exact hzero _ _
end M92
