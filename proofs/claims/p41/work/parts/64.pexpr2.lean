/-! EXPRS: bounds, and the whole of an expr -/
section M64
variable {K : List Int} {c0 a0 a : Nat} {l : Lv} {r : List Lv} {C : List Int}
/-- a turn's outcome, ahead of what a closing bracket does -/
def XG (K : List Int) (c0 a0 a : Nat) (y : XS) : Prop :=
  ((y.1 = 1 ∨ y.1 = 2) → XI K c0 a0 y ∧ y.2.2.1 ≠ [] ∧ a < y.2.1) ∧
  ((y.1 = 0 ∨ y.1 = 3) → a0 ≤ y.2.1 ∧ a ≤ y.2.1 ∧ y.2.1 ≤ K.length ∧ y.2.2.2.length ≤ c0 + (y.2.1 - a0)) ∧
  (y.1 = 4 → ∃ l' r', y.2.2.1 = l' :: r' ∧ a ≤ y.2.1 ∧ y.2.1 < K.length ∧ a0 ≤ y.2.1 ∧ (∀ m ∈ r', LOk y.2.1 m) ∧ y.2.2.2.length + 1 + pnd r' ≤ c0 + (y.2.1 - a0) + 1 ∧ c0 ≤ y.2.2.2.length ∧ (0 ≤ opn l' ∧ opn l' < 200) ∧ 0 ≤ szs l' ∧ szs l' ≤ (y.2.1 : Int) + 1)
theorem kn_lt' {k : Int} (h : kn K a = k) (hk : k ≠ 24) : a < K.length := kn_lt (by rw [h]; exact hk)
theorem XG_go {s : Nat} {L : List Lv} {D : List Int} {a' : Nat} (hs : s = 1 ∨ s = 2) (hL : L ≠ []) (h1 : a < a') (h2 : a0 ≤ a) (h3 : a' ≤ K.length) (h4 : ∀ m ∈ L, LOk a' m) (h5 : D.length + pnd L ≤ c0 + (a' - a0) + 1 ∧ c0 ≤ D.length) : XG K c0 a0 a (s, a', L, D) :=
  ⟨fun _ => ⟨⟨by show a0 ≤ a'; omega, h3, h4, h5⟩, hL, h1⟩, fun h => by have h6 : s = 0 ∨ s = 3 := h; omega, fun h => by have h6 : s = 4 := h; omega⟩
theorem XG_end {s : Nat} {L : List Lv} {D : List Int} (hs : s = 0 ∨ s = 3) (h2 : a0 ≤ a) (h3 : a ≤ K.length) (h5 : D.length ≤ c0 + (a - a0)) : XG K c0 a0 a (s, a, L, D) :=
  ⟨fun h => by have h6 : s = 1 ∨ s = 2 := h; omega, fun _ => ⟨h2, Nat.le_refl _, h3, h5⟩, fun h => by have h6 : s = 4 := h; omega⟩
theorem all_cons {P : Lv → Prop} {x : Lv} {L : List Lv} (h : P x) (k : ∀ m ∈ L, P m) : ∀ m ∈ x :: L, P m := fun m hm => by
  rcases List.mem_cons.mp hm with rfl | h2
  · exact h
  · exact k m h2
theorem pn1_no : pn1 (-1) = 0 := rfl
theorem pn1_nat (k : Nat) : pn1 (k : Int) = 1 := by unfold pn1; rw [if_neg (by omega)]
theorem XG_xop {s : Nat} (h : XI K c0 a0 (s, a, l :: r, C)) (hK : K.length ≤ 195) : XG K c0 a0 a (xop K a l r C) := by
  obtain ⟨h1, h2, h3, h4, hcc⟩ := h
  change c0 ≤ C.length at hcc
  change a0 ≤ a at h1
  change a ≤ K.length at h2
  change ∀ m ∈ l :: r, LOk a m at h3
  change C.length + (pnl l + pnd r) ≤ c0 + (a - a0) + 1 at h4
  have hl := h3 l List.mem_cons_self
  have hr : ∀ m ∈ r, LOk a m := fun m hm => h3 m (List.mem_cons_of_mem _ hm)
  have hp : 1 ≤ pnl l := by unfold pnl; omega
  unfold xop
  split
  · next e =>
    have := kn_lt' e.1 (by decide)
    refine XG_go (Or.inl rfl) (by simp) (by omega) h1 (by omega) (all_cons ⟨hl.1, hl.2.1, ⟨hl.2.2.1.1, by have := hl.2.2.1.2; show szs l ≤ _; omega⟩, ⟨by show -1 ≤ (a : Int); omega, by show (a : Int) < 200; omega⟩, hl.2.2.2.2⟩ (fun m hm => (hr m hm).mo (by omega))) ?_
    show C.length + ((1 + pn1 (a : Int) + pn1 (tms l) + pn1 (ads l) + pn1 (cps l)) + pnd r) ≤ _ ∧ c0 ≤ C.length
    unfold pnl at h4
    rw [e.2, pn1_no] at h4
    rw [pn1_nat]
    omega
  · split
    · next e =>
      have := kn_lt' e.2 (by decide)
      refine XG_go (Or.inl rfl) (by simp) (by omega) h1 (by omega) (all_cons (LOk.new (by decide) (by omega)) (all_cons (hl.mo (by omega)) (fun m hm => (hr m hm).mo (by omega)))) ?_
      show C.length + (1 + (pnl l + pnd r)) ≤ _ ∧ c0 ≤ C.length
      omega
    · split
      · next e =>
        have := kn_lt' e (by decide)
        refine XG_go (Or.inl rfl) (by simp) (by omega) h1 (by omega) (all_cons (LOk.new (by decide) (by omega)) (all_cons (hl.mo (by omega)) (fun m hm => (hr m hm).mo (by omega)))) ?_
        show C.length + (1 + (pnl l + pnd r)) ≤ _ ∧ c0 ≤ C.length
        omega
      · split
        · next e =>
          have := kn_lt' e.1 (by decide)
          refine ⟨fun h => ?_, fun h => ?_, fun _ => ⟨l, r, rfl, Nat.le_refl _, this, h1, hr, ?_, hcc, hl.2.1, hl.2.2.1.1, ?_⟩⟩
          · have h6 : (4 : Nat) = 1 ∨ (4 : Nat) = 2 := h
            omega
          · have h6 : (4 : Nat) = 0 ∨ (4 : Nat) = 3 := h
            omega
          · show C.length + 1 + pnd r ≤ c0 + (a - a0) + 1
            omega
          · have := hl.2.2.1.2
            show szs l ≤ (a : Int) + 1
            omega
        · split
          · next e =>
            have : a < K.length := kn_lt (by omega)
            refine XG_go (Or.inr rfl) (by simp) (by omega) h1 (by omega) (all_cons (hl.mo (by omega)) (fun m hm => (hr m hm).mo (by omega))) ?_
            show (C ++ [mk 14 a 0]).length + (pnl l + pnd r) ≤ _ ∧ c0 ≤ (C ++ [mk 14 a 0]).length
            rw [List.length_append, List.length_singleton]
            omega
          · exact XG_end (Or.inl rfl) h1 h2 (by omega)
theorem XG_xcl (h1 : a0 ≤ a) (h2 : a ≤ K.length) (hl : LOk a l) (hr : ∀ m ∈ r, LOk a m) (hcc : c0 ≤ C.length) (h4 : C.length + (pnl l + pnd r) ≤ c0 + (a - a0) + 1) : XG K c0 a0 a (xcl K a l r C) := by
  have hp : 1 ≤ pnl l := by unfold pnl; omega
  have hs1 := hl.2.2.1.1
  have hs2 := hl.2.2.1.2
  have shut : ∀ (v : Lv), opn v = opn l → (0 ≤ szs v ∧ szs v ≤ szs l + 1) → a < K.length → XG K c0 a0 a (4, a, v :: r, C) := fun v e1 e2 e3 => by
    refine ⟨fun h => ?_, fun h => ?_, fun _ => ⟨v, r, rfl, Nat.le_refl _, e3, h1, hr, ?_, hcc, by rw [e1]; exact hl.2.1, e2.1, ?_⟩⟩
    · have h6 : (4 : Nat) = 1 ∨ (4 : Nat) = 2 := h
      omega
    · have h6 : (4 : Nat) = 0 ∨ (4 : Nat) = 3 := h
      omega
    · show C.length + 1 + pnd r ≤ c0 + (a - a0) + 1
      omega
    · show szs v ≤ (a : Int) + 1
      omega
  unfold xcl
  split
  · exact XG_end (Or.inr rfl) h1 h2 (by omega)
  · split
    · split
      · next e =>
        have := kn_lt' e (by decide)
        have hs : LOk (a + 1) (shp l, opn l, szs l + 1, nts l, tms l, ads l, cps l) := ⟨hl.1, hl.2.1, ⟨by show 0 ≤ szs l + 1; omega, by show szs l + 1 ≤ _; omega⟩, hl.2.2.2⟩
        exact XG_go (Or.inl rfl) (by simp) (by omega) h1 (by omega) (all_cons hs (fun m hm => (hr m hm).mo (by omega))) (by show C.length + (pnl l + pnd r) ≤ _ ∧ c0 ≤ C.length; omega)
      · split
        · next e => exact shut (shp l, opn l, szs l + 1, nts l, tms l, ads l, cps l) rfl ⟨by show 0 ≤ szs l + 1; omega, by show szs l + 1 ≤ _; omega⟩ (kn_lt' e (by decide))
        · exact XG_end (Or.inl rfl) h1 h2 (by omega)
    · split
      · next e => exact shut l rfl ⟨hs1, by omega⟩ (kn_lt' e (by decide))
      · exact XG_end (Or.inl rfl) h1 h2 (by omega)
theorem XG_xbh {s : Nat} (h : XI K c0 a0 (s, a, l :: r, C)) (hK : K.length ≤ 195) : XG K c0 a0 a (xbh K a l r C) := by
  obtain ⟨h1, h2, h3, h4, hcc⟩ := h
  change c0 ≤ C.length at hcc
  change a0 ≤ a at h1
  change a ≤ K.length at h2
  change ∀ m ∈ l :: r, LOk a m at h3
  change C.length + (pnl l + pnd r) ≤ c0 + (a - a0) + 1 at h4
  have hl := h3 l List.mem_cons_self
  have hr : ∀ m ∈ r, LOk a m := fun m hm => h3 m (List.mem_cons_of_mem _ hm)
  have hr2 : ∀ m ∈ r, LOk (a + 1) m := fun m hm => (hr m hm).mo (by omega)
  unfold pnl at h4
  have hz := hl.2.2.1
  have d1 : (-1 : Int) ≤ -1 ∧ (-1 : Int) < 200 := by decide
  have lok : ∀ (k : Nat) (p q w v : Int), a ≤ k → (-1 ≤ p ∧ p < 200) → (-1 ≤ q ∧ q < 200) → (-1 ≤ w ∧ w < 200) → (-1 ≤ v ∧ v < 200) → LOk k (shp l, opn l, szs l, p, q, w, v) := fun k p q w v hk hp hq hw hv =>
    ⟨hl.1, hl.2.1, ⟨hz.1, by have := hz.2; show szs l ≤ (k : Int); omega⟩, hp, hq, hw, hv⟩
  unfold xbh xb2
  split
  · next e =>
    have := kn_lt' e (by decide)
    refine XG_go (Or.inl rfl) (by simp) (by omega) h1 (by omega) (all_cons (lok (a + 1) _ _ _ _ (by omega) d1 ⟨by omega, by omega⟩ hl.2.2.2.2.2.1 hl.2.2.2.2.2.2) hr2) ?_
    show (C ++ wd 16 (nts l) ++ wd 17 (tms l)).length + ((1 + pn1 (-1) + pn1 (a : Int) + pn1 (ads l) + pn1 (cps l)) + pnd r) ≤ _ ∧ c0 ≤ (C ++ wd 16 (nts l) ++ wd 17 (tms l)).length
    rw [List.length_append, List.length_append, wd_len, wd_len, pn1_no, pn1_nat]
    omega
  · unfold xb3
    split
    · next e =>
      have : a < K.length := kn_lt (by omega)
      refine XG_go (Or.inl rfl) (by simp) (by omega) h1 (by omega) (all_cons (lok (a + 1) _ _ _ _ (by omega) d1 d1 ⟨by omega, by omega⟩ hl.2.2.2.2.2.2) hr2) ?_
      show (C ++ wd 16 (nts l) ++ wd 17 (tms l) ++ wd 17 (ads l)).length + ((1 + pn1 (-1) + pn1 (-1) + pn1 (a : Int) + pn1 (cps l)) + pnd r) ≤ _ ∧ c0 ≤ (C ++ wd 16 (nts l) ++ wd 17 (tms l) ++ wd 17 (ads l)).length
      rw [List.length_append, List.length_append, List.length_append, wd_len, wd_len, wd_len, pn1_no, pn1_nat]
      omega
    · split
      · split
        · next e0 e =>
          have : a < K.length := kn_lt (by omega)
          refine XG_go (Or.inl rfl) (by simp) (by omega) h1 (by omega) (all_cons (lok (a + 1) _ _ _ _ (by omega) d1 d1 d1 ⟨by omega, by omega⟩) hr2) ?_
          show (C ++ wd 16 (nts l) ++ wd 17 (tms l) ++ wd 17 (ads l)).length + ((1 + pn1 (-1) + pn1 (-1) + pn1 (-1) + pn1 (a : Int)) + pnd r) ≤ _ ∧ c0 ≤ (C ++ wd 16 (nts l) ++ wd 17 (tms l) ++ wd 17 (ads l)).length
          rw [e0, pn1_no] at h4
          rw [List.length_append, List.length_append, List.length_append, wd_len, wd_len, wd_len, pn1_no, pn1_nat]
          omega
        · refine XG_xcl h1 h2 (lok a _ _ _ _ (Nat.le_refl _) d1 d1 d1 d1) hr (by simp only [List.length_append]; omega) ?_
          show (C ++ wd 16 (nts l) ++ wd 17 (tms l) ++ wd 17 (ads l)).length + ((1 + pn1 (-1) + pn1 (-1) + pn1 (-1) + pn1 (-1)) + pnd r) ≤ _
          rw [List.length_append, List.length_append, List.length_append, wd_len, wd_len, wd_len, pn1_no]
          omega
      · refine XG_xcl h1 h2 (lok a _ _ _ _ (Nat.le_refl _) d1 d1 d1 d1) hr (by simp only [List.length_append]; omega) ?_
        show (C ++ wd 16 (nts l) ++ wd 17 (tms l) ++ wd 17 (ads l) ++ wd 17 (cps l)).length + ((1 + pn1 (-1) + pn1 (-1) + pn1 (-1) + pn1 (-1)) + pnd r) ≤ _
        rw [List.length_append, List.length_append, List.length_append, List.length_append, wd_len, wd_len, wd_len, wd_len, pn1_no]
        omega
end M64
/-- a whole turn's outcome -/
def XT (K : List Int) (c0 a0 a : Nat) (y : XS) : Prop :=
  ((y.1 = 1 ∨ y.1 = 2) ∧ XI K c0 a0 y ∧ y.2.2.1 ≠ [] ∧ a < y.2.1) ∨ ((y.1 = 0 ∨ y.1 = 3) ∧ a0 ≤ y.2.1 ∧ a ≤ y.2.1 ∧ y.2.1 ≤ K.length ∧ y.2.2.2.length ≤ c0 + (y.2.1 - a0))
theorem st_xcl {K : List Int} {a : Nat} {l : Lv} {r : List Lv} {C : List Int} : (xcl K a l r C).1 ≤ 4 := by
  unfold xcl
  repeat' split
  all_goals simp
theorem st_xop {K : List Int} {a : Nat} {l : Lv} {r : List Lv} {C : List Int} : (xop K a l r C).1 ≤ 4 := by
  unfold xop
  repeat' split
  all_goals simp
theorem st_xbh {K : List Int} {a : Nat} {l : Lv} {r : List Lv} {C : List Int} : (xbh K a l r C).1 ≤ 4 := by
  unfold xbh xb2 xb3
  repeat' split
  all_goals first | exact st_xcl | simp
theorem XG.sh {K : List Int} {c0 a0 a : Nat} {y : XS} (h : XG K c0 a0 a y) (hs : y.1 ≤ 4) : XT K c0 a0 a (xsh y) := by
  obtain ⟨s, a', L, C'⟩ := y
  by_cases e : s = 4
  · subst e
    obtain ⟨l', r', e1, h1, h2, h3, h4, h5, hcc, h6, h7, h8⟩ := h.2.2 rfl
    change c0 ≤ C'.length at hcc
    change L = l' :: r' at e1
    subst e1
    show XT K c0 a0 a ((if r' = [] then 3 else 2), a' + 1, r', C' ++ [_])
    change a ≤ a' at h1
    change a' < K.length at h2
    change a0 ≤ a' at h3
    change C'.length + 1 + pnd r' ≤ c0 + (a' - a0) + 1 at h5
    by_cases e2 : r' = []
    · rw [if_pos e2]
      refine Or.inr ⟨Or.inr rfl, by show a0 ≤ a' + 1; omega, by show a ≤ a' + 1; omega, h2, ?_⟩
      show (C' ++ [_]).length ≤ _
      rw [List.length_append, List.length_singleton]
      show _ ≤ c0 + (a' + 1 - a0)
      omega
    · rw [if_neg e2]
      refine Or.inl ⟨Or.inr rfl, ⟨by show a0 ≤ a' + 1; omega, h2, fun m hm => (h4 m hm).mo (by show a' ≤ a' + 1; omega), ?_⟩, e2, by show a < a' + 1; omega⟩
      show (C' ++ [_]).length + pnd r' ≤ _ ∧ c0 ≤ (C' ++ [_]).length
      rw [List.length_append, List.length_singleton]
      show _ ≤ c0 + (a' + 1 - a0) + 1 ∧ _
      omega
  · have hx : xsh (s, a', L, C') = (s, a', L, C') := by
      unfold xsh
      split
      · next e2 =>
        injection e2 with e3
        exact absurd e3 e
      · rfl
    rw [hx]
    change s ≤ 4 at hs
    by_cases e2 : s = 1 ∨ s = 2
    · exact Or.inl ⟨e2, h.1 e2⟩
    · exact Or.inr ⟨by show s = 0 ∨ s = 3; omega, h.2.1 (by show s = 0 ∨ s = 3; omega)⟩
section M64b
variable {F : MF} {n t b z a c0 a0 : Nat} {K : List Int} {S : List (Int × Int)} {C : List Int} {E : EE} {Fn : FF} {U : List Int} {L r : List Lv} {l : Lv}
/-- what an expr leaves -/
abbrev XR (n t b : Nat) (K : List Int) (S : List (Int × Int)) (E : EE) (Fn : FF) (U : List Int) (F : MF) (x : XS) : Int → MF → Prop := fun v F' => v = (if x.1 = 3 then 1 else 0) ∧ RC F' n t b K x.2.1 S x.2.2.2 E Fn U ∧ fr (RP n t) F F'
/-- the turn behind operand() or behind() -/
theorem l_69t {y : XS} {F1 : MF} {x3 v : Int} {R : Int → MF → Prop} (hX : RX n t b z K) (hS : St F1) (hy : v = (y.1 : Int)) (hx : XC F1 n t b K S E Fn U y) (hg : XG K c0 a0 a y) (hs : y.1 ≤ 4) (hc : c0 ≤ 3 * a0 + 1) (hK : K.length ≤ 195) (h3 : 0 ≤ x3 ∧ x3 < 10000)
    (Kf : ∀ F2 : MF, ((xsh y).1 = 0 ∨ (xsh y).1 = 3) → RC F2 n t b K (xsh y).2.1 S (xsh y).2.2.2 E Fn U → fr (RP n t) F1 F2 → R (if (xsh y).1 = 3 then 1 else 0) F2)
    (Kc : ∀ F2 : MF, ((xsh y).1 = 1 ∨ (xsh y).1 = 2) → St F2 → XC F2 n t b K S E Fn U (xsh y) → fr (RP n t) F1 F2 → L_69_44 n ((xsh y).1 : Int) (x3 + 1) F2 R m_no) :
    ((v = 4 → (-2147483648 ≤ (F1 n 14 - 1) ∧ (F1 n 14 - 1) < 2147483648) ∧ (∃ b55 : Nat, (F1 n 3) = ((b55 : Nat) : Int) ∧ b55 ∈ m_I9 ∧ (0 ≤ (F1 n 14 - 1) ∧ (F1 n 14 - 1) < 200) ∧ (((F1 (n + 4) (F1 n 14 - 1).toNat) = 1 → (0 ≤ (F1 n 14 - 1) ∧ (F1 n 14 - 1) < 200) ∧ (0 ≤ (F1 n 14 - 1) ∧ (F1 n 14 - 1) < 200) ∧ C_121 b55 18 (F1 (n + 5) (F1 n 14 - 1).toNat) (F1 (n + 6) (F1 n 14 - 1).toNat) (m_up F1 n 14 (F1 n 14 - 1)) (fun F70 => (-2147483648 ≤ (F70 n 2 + 1) ∧ (F70 n 2 + 1) < 2147483648) ∧ (((F70 n 14) = 0 → R 1 (m_up F70 n 2 (F70 n 2 + 1))) ∧ (¬ (F70 n 14) = 0 → (-2147483648 ≤ (x3 + 1) ∧ (x3 + 1) < 2147483648) ∧ L_69_44 n 2 (x3 + 1) (m_up F70 n 2 (F70 n 2 + 1)) R m_no))) m_no) ∧ (¬ (F1 (n + 4) (F1 n 14 - 1).toNat) = 1 → (0 ≤ (F1 n 14 - 1) ∧ (F1 n 14 - 1) < 200) ∧ (0 ≤ (F1 n 14 - 1) ∧ (F1 n 14 - 1) < 200) ∧ C_121 b55 15 (F1 (n + 5) (F1 n 14 - 1).toNat) (F1 (n + 6) (F1 n 14 - 1).toNat) (m_up F1 n 14 (F1 n 14 - 1)) (fun F70 => (-2147483648 ≤ (F70 n 2 + 1) ∧ (F70 n 2 + 1) < 2147483648) ∧ (((F70 n 14) = 0 → R 1 (m_up F70 n 2 (F70 n 2 + 1))) ∧ (¬ (F70 n 14) = 0 → (-2147483648 ≤ (x3 + 1) ∧ (x3 + 1) < 2147483648) ∧ L_69_44 n 2 (x3 + 1) (m_up F70 n 2 (F70 n 2 + 1)) R m_no))) m_no)))) ∧
     (¬ v = 4 → ((v = 0 → ((v = 3 → R 1 F1) ∧ (¬ v = 3 → R 0 F1))) ∧ (¬ v = 0 → ((v = 3 → R 1 F1) ∧ (¬ v = 3 → (-2147483648 ≤ (x3 + 1) ∧ (x3 + 1) < 2147483648) ∧ L_69_44 n v (x3 + 1) F1 R m_no)))))) := by
  obtain ⟨s, a', L, C'⟩ := y
  change v = (s : Int) at hy
  change s ≤ 4 at hs
  subst hy
  obtain ⟨hR, hL⟩ := hx
  change RC F1 n t b K a' S C' E Fn U at hR
  change LvC F1 n L at hL
  have hne : s ≠ 4 → xsh (s, a', L, C') = (s, a', L, C') := fun e => by
    unfold xsh
    split
    · next e2 =>
      injection e2 with e3
      exact absurd e3 e
    · rfl
  refine ⟨fun h4 => ?_, fun h4 => ⟨fun h0 => ⟨fun h5 => by omega, fun h5 => ?_⟩, fun h0 => ⟨fun h5 => ?_, fun h5 => ⟨by omega, ?_⟩⟩⟩⟩
  · obtain rfl : s = 4 := by omega
    obtain ⟨l', r', e1, g1, g2, g3, g4, g5, gcc, g6, g7, g8⟩ := hg.2.2 rfl
    change c0 ≤ C'.length at gcc
    change L = l' :: r' at e1
    subst e1
    change a' < K.length at g2
    change a0 ≤ a' at g3
    change C'.length + 1 + pnd r' ≤ c0 + (a' - a0) + 1 at g5
    change szs l' ≤ (a' : Int) + 1 at g8
    have hrl := pnd_len r'
    obtain ⟨l1, l2, l3, l4, l5, l6, l7, l8⟩ := hL.2
    have e14 : F1 n 14 - 1 = (r'.length : Int) := by
      rw [hL.1, List.length_cons]
      omega
    have hS2 : St (m_up F1 n 14 (r'.length : Int)) := hS.fld (ok_4 hX.1) rk_4_14
    have hR2 : RC (m_up F1 n 14 (r'.length : Int)) n t b K a' S C' E Fn U := hR.lev hX (fun j hj => u_ne (Or.inr hj)) (fr.rf.up (Or.inl rfl))
    have hL2 : LvC (m_up F1 n 14 (r'.length : Int)) n r' := ⟨u_eq, l8.cong (fun i hi c h1 h2 => by rw [up_row (by omega)])⟩
    obtain ⟨o, ho⟩ := Int.eq_ofNat_of_zero_le g6.1
    obtain ⟨w, hw⟩ := Int.eq_ofNat_of_zero_le g7
    have hsh : ∀ q : Nat, (if shp l' = 1 then 18 else 15) = q → xsh (4, a', l' :: r', C') = ((if r' = [] then 3 else 2), a' + 1, r', C' ++ [mk q o w]) := fun q hq => by
      show ((if r' = [] then 3 else 2), a' + 1, r', C' ++ [mk (if shp l' = 1 then 18 else 15) (opn l').toNat (szs l').toNat]) = _
      rw [ho, hw, Int.toNat_natCast, Int.toNat_natCast, hq]
    have go : ∀ q : Nat, q < 256 → (if shp l' = 1 then 18 else 15) = q → C_121 t (q : Int) (o : Int) (w : Int) (m_up F1 n 14 (r'.length : Int)) (fun F70 => (-2147483648 ≤ (F70 n 2 + 1) ∧ (F70 n 2 + 1) < 2147483648) ∧ (((F70 n 14) = 0 → R 1 (m_up F70 n 2 (F70 n 2 + 1))) ∧ (¬ (F70 n 14) = 0 → (-2147483648 ≤ (x3 + 1) ∧ (x3 + 1) < 2147483648) ∧ L_69_44 n 2 (x3 + 1) (m_up F70 n 2 (F70 n 2 + 1)) R m_no))) m_no := by
      intro q hq2 hq
      have hsq := hsh q hq
      have ho2 : o < 200 := by have := g6.2; omega
      have hw2 : w < 1000 := by omega
      refine CaV.on (s_121 (o := q) (p := o) (e := w) hX.2.1 hS2 hR2.2.2.2 (by omega) hq2 (by omega) (by omega)) ?_
      rintro F2 hS3 ⟨k1, k2⟩
      have h6 := hR2.tree hX k2 k1
      have h7 := LvC.emit hX hL2 k2
      rw [h6.2.1, h7.1]
      have hf1 : fr (RP n t) F1 (m_up F1 n 14 (r'.length : Int)) := fr.rf.up (Or.inl rfl)
      have hfr : fr (RP n t) F1 (m_up F2 n 2 ((a' : Int) + 1)) := (hf1.tr (k2.mo TP_RP)).up (Or.inl rfl)
      refine ⟨by omega, fun e => ?_, fun e => ⟨by omega, ?_⟩⟩
      · have e2 : r' = [] := List.length_eq_zero_iff.mp (by omega)
        rw [if_pos e2] at hsq
        have := Kf (m_up F2 n 2 ((a' : Int) + 1)) (by rw [hsq]; exact Or.inr rfl) (by rw [hsq]; exact h6.pos (a' := a' + 1) hX (by omega)) hfr
        rw [hsq] at this
        exact this
      · have e2 : r' ≠ [] := fun e3 => e (by rw [e3]; rfl)
        rw [if_neg e2] at hsq
        have := Kc (m_up F2 n 2 ((a' : Int) + 1)) (by rw [hsq]; exact Or.inr rfl) (hS3.fld (ok_4 hX.1) rk_4_2) (by rw [hsq]; exact ⟨h6.pos (a' := a' + 1) hX (by omega), h7.pos⟩) hfr
        rw [hsq] at this
        exact this
    rw [e14, Int.toNat_natCast, l1, l2, l3, ho, hw]
    refine ⟨by omega, t, hR.1.2.2.1, hX.2.1, by omega, fun e => ⟨by omega, by omega, go 18 (by decide) (by rw [if_pos e])⟩, fun e => ⟨by omega, by omega, go 15 (by decide) (by rw [if_neg e])⟩⟩
  · obtain rfl : s = 0 := by omega
    have := Kf F1 (by rw [hne (by decide)]; exact Or.inl rfl) (by rw [hne (by decide)]; exact hR) fr.rf
    rw [hne (by decide)] at this
    exact this
  · obtain rfl : s = 3 := by omega
    have := Kf F1 (by rw [hne (by decide)]; exact Or.inr rfl) (by rw [hne (by decide)]; exact hR) fr.rf
    rw [hne (by decide)] at this
    exact this
  · have h6 : s = 1 ∨ s = 2 := by omega
    have := Kc F1 (by rw [hne (by omega)]; exact h6) hS (by rw [hne (by omega)]; exact ⟨hR, hL⟩) fr.rf
    rw [hne (by omega)] at this
    exact this
theorem l_69 (hX : RX n t b z K) (hc : c0 ≤ 3 * a0 + 1) : ∀ (d : Nat) (s a : Nat) (l : Lv) (r : List Lv) (C : List Int) (F : MF), d ≤ K.length + 2 → (s = 1 ∨ s = 2) → St F → XC F n t b K S E Fn U (s, a, l :: r, C) → XI K c0 a0 (s, a, l :: r, C) →
    L_69_44 n (s : Int) ((K.length : Int) + 2 - (d : Int)) F (XR n t b K S E Fn U F (xrun K d (s, a, l :: r, C))) m_no := by
  have hK := hX.2.2.2.2.1
  intro d
  induction d with
  | zero =>
    intro s a l r C F hd hs hS hx hi
    refine b_69_44 hX.1 hS ?_
    rw [hx.1.1.2.1]
    exact ⟨by omega, fun _ => ⟨rfl, hx.1, fr.rf⟩, fun h => by omega⟩
  | succ d ih =>
    intro s a l r C F hd hs hS hx hi
    obtain ⟨hR, hL⟩ := hx
    change RC F n t b K a S C E Fn U at hR
    change LvC F n (l :: r) at hL
    have hi' := hi
    obtain ⟨i1, i2, i3, i4, i5⟩ := hi'
    change c0 ≤ C.length at i5
    change a0 ≤ a at i1
    change a ≤ K.length at i2
    change C.length + (pnl l + pnd r) ≤ c0 + (a - a0) + 1 at i4
    have hz := i3 l List.mem_cons_self
    have hpl : 1 ≤ pnl l := by unfold pnl; omega
    have hrl := pnd_len r
    have fin : ∀ (y : XS) (F1 : MF) (v : Int), xst K (s, a, l :: r, C) = xsh y → St F1 → v = (y.1 : Int) → XC F1 n t b K S E Fn U y → fr (RP n t) F F1 → XG K c0 a0 a y → y.1 ≤ 4 → _ := fun y F1 v hy hS1 k1 k2 k3 hg hs4 =>
      l_69t (R := XR n t b K S E Fn U F (xrun K (d + 1) (s, a, l :: r, C))) (x3 := (K.length : Int) + 2 - ((d + 1 : Nat) : Int)) hX hS1 k1 k2 hg hs4 hc hK (by omega)
        (fun F2 e1 e2 e3 => by
          have hxr : xrun K (d + 1) (s, a, l :: r, C) = xsh y := by
            show (if (xst K (s, a, l :: r, C)).1 = 0 ∨ (xst K (s, a, l :: r, C)).1 = 3 then xst K (s, a, l :: r, C) else xrun K d (xst K (s, a, l :: r, C))) = _
            rw [hy, if_pos e1]
          rw [hxr]
          exact ⟨rfl, e2, k3.tr e3⟩)
        (fun F2 e1 hS2 hx2 e3 => by
          have hxr : xrun K (d + 1) (s, a, l :: r, C) = xrun K d (xsh y) := by
            show (if (xst K (s, a, l :: r, C)).1 = 0 ∨ (xst K (s, a, l :: r, C)).1 = 3 then xst K (s, a, l :: r, C) else xrun K d (xst K (s, a, l :: r, C))) = _
            rw [hy, if_neg (by omega)]
          rw [hxr]
          have ht := hg.sh hs4
          rcases ht with ⟨-, t1, t2, t3⟩ | ⟨t1, -⟩
          · obtain ⟨w, hw⟩ : ∃ w, w = xsh y := ⟨_, rfl⟩
            rw [← hw] at t1 t2 t3 e1 hx2 ⊢
            obtain ⟨ws, wa, wL, wC⟩ := w
            cases wL with
            | nil => exact absurd rfl t2
            | cons m q =>
              have := ih ws wa m q wC F2 (by omega) e1 hS2 hx2 t1
              rw [show (K.length : Int) + 2 - (d : Int) = (K.length : Int) + 2 - ((d + 1 : Nat) : Int) + 1 by omega] at this
              exact EvI.mono this (fun v F' _ k => ⟨k.1, k.2.1, (k3.tr e3).tr k.2.2⟩) (fun _ _ _ h => h)
          · omega)
    refine b_69_44 hX.1 hS ?_
    rw [hR.1.2.1]
    refine ⟨by omega, fun h => by omega, fun _ => ⟨fun h1 => ?_, fun h1 => ?_⟩⟩
    · obtain rfl : s = 1 := by omega
      refine CaI.on (s_71 hX hS hR hL (by omega) (by omega) hz (by omega)) ?_
      rintro v F1 hS1 ⟨k1, k2, k3⟩
      exact fin (xop K a l r C) F1 v rfl hS1 k1 k2 k3 (XG_xop hi hK) st_xop
    · obtain rfl : s = 2 := by omega
      refine CaI.on (s_72 hX hS hR hL (by omega) (by omega) hz (by omega)) ?_
      rintro v F1 hS1 ⟨k1, k2, k3⟩
      exact fin (xbh K a l r C) F1 v rfl hS1 k1 k2 k3 (XG_xbh hi hK) st_xbh
theorem s_69 {cl : Bool} {v : Int} (hX : RX n t b z K) (hS : St F) (h : RC F n t b K a S C E Fn U) (hc : C.length ≤ 3 * a + 1) (ha : a ≤ K.length) (hv : v = bi cl) (hcl : cl = true → a + 2 ≤ K.length) :
    C_69 n v F (XR n t b K S E Fn U F (exr K cl a C)) m_no := by
  have hK := hX.2.2.2.2.1
  subst hv
  have hS2 : St (m_up F n 14 0) := hS.fld (ok_4 hX.1) rk_4_14
  have hR2 : RC (m_up F n 14 0) n t b K a S C E Fn U := h.lev hX (fun j hj => u_ne (Or.inr hj)) (fr.rf.up (Or.inl rfl))
  have hL2 : LvC (m_up F n 14 0) n [] := ⟨u_eq, trivial⟩
  have hf2 : fr (RP n t) F (m_up F n 14 0) := fr.rf.up (Or.inl rfl)
  have go : ∀ (sh k : Nat), (cl = true ∧ sh = 2 ∧ k = 2 ∨ cl = false ∧ sh = 0 ∧ k = 0) → ∀ F4, St F4 → RC F4 n t b K a S C E Fn U → LvC F4 n (lv0 sh a :: []) → fr (RP n t) F F4 →
      L_69_44 n 1 0 (m_up F4 n 2 ((a : Int) + (k : Int))) (XR n t b K S E Fn U F (exr K cl a C)) m_no := by
    intro sh k hsk F4 hS4 k1 k2 k3
    have e1 : (if cl = true then a + 2 else a) = a + k := by
      rcases hsk with ⟨e, -, e2⟩ | ⟨e, -, e2⟩
      · rw [if_pos e, e2]
      · rw [e, if_neg (by decide), e2]; rfl
    have e2 : lv0 (if cl = true then 2 else 0) (a : Int) = lv0 (sh : Int) (a : Int) := by
      rcases hsk with ⟨e, e2, -⟩ | ⟨e, e2, -⟩
      · rw [if_pos e, e2]; rfl
      · rw [e, if_neg (by decide), e2]; rfl
    have hak : a + k ≤ K.length := by
      rcases hsk with ⟨e, -, e2⟩ | ⟨e, -, e2⟩
      · have := hcl e
        omega
      · omega
    have := l_69 (c0 := C.length) (a0 := a) hX hc (K.length + 2) 1 (a + k) (lv0 sh a) [] C (m_up F4 n 2 ((a : Int) + (k : Int))) (Nat.le_refl _) (Or.inl rfl) (hS4.fld (ok_4 hX.1) rk_4_2) ⟨k1.pos (a' := a + k) hX (by omega), k2.pos⟩
      ⟨by show a ≤ a + k; omega, hak, all_cons (LOk.new (by omega) (by omega)) (fun m hm => by cases hm), by show C.length + (1 + 0) ≤ C.length + (a + k - a) + 1; omega, Nat.le_refl _⟩
    have e3 : exr K cl a C = xrun K (K.length + 2) (1, a + k, lv0 sh a :: [], C) := by
      unfold exr
      rw [e1, e2]
    rw [e3]
    rw [show (K.length : Int) + 2 - ((K.length + 2 : Nat) : Int) = 0 by omega] at this
    exact EvI.mono this (fun v F' _ k => ⟨k.1, k.2.1, (k3.up (Or.inl rfl)).tr k.2.2⟩) (fun _ _ _ h => h)
  refine c_69 hX.1 hS ⟨fun h0 => ?_, fun h0 => ?_⟩
  · have hcf := bi0.mp h0
    rw [h.2.1]
    refine CaV.on (s_70 (x := 0) (o := a) hX hS2 hR2 hL2 (by decide)) ?_
    rintro F4 hS4 ⟨k1, k2, k3⟩
    rw [k1.2.1]
    exact ⟨by omega, go 0 0 (Or.inr ⟨hcf, rfl, rfl⟩) F4 hS4 k1 k2 (hf2.tr (k3.mo (fun c h => by unfold RP; omega)))⟩
  · have hct : cl = true := by
      cases cl
      · exact absurd rfl h0
      · rfl
    rw [h.2.1]
    refine CaV.on (s_70 (x := 2) (o := a) hX hS2 hR2 hL2 (by decide)) ?_
    rintro F4 hS4 ⟨k1, k2, k3⟩
    rw [k1.2.1]
    exact ⟨by omega, go 2 2 (Or.inl ⟨hct, rfl, rfl⟩) F4 hS4 k1 k2 (hf2.tr (k3.mo (fun c h => by unfold RP; omega)))⟩
end M64b
