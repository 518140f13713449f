/-! THE READER OF THE CLASS: what it keeps, and its small methods -/
theorem aim_len (C : List Int) (i : Int) (p : Nat) : (aim C i p).length = C.length := by
  unfold aim
  split
  · rw [List.length_set]
  · rfl
section M62a
variable {F : MF} {t : Nat} {C : List Int} {E : EE} {Fn : FF} {U : List Int}
theorem s_122 {i : Int} {p : Nat} (hn : t ∈ m_I9) (hS : St F) (h : TreeC F t C E Fn U) (hC : ∀ k, k < C.length → 0 ≤ gx C k ∧ gx C k < 2147483648) (hl : C.length ≤ 640) (hp : p < 32768) :
    C_122 t i (p : Int) F (fun F' => TreeC F' t (aim C i p) E Fn U ∧ fr (TP t) F F') m_no := by
  have h' := h
  obtain ⟨⟨h1, h2⟩, h3, h4, h5⟩ := h
  unfold aim
  refine c_122 hn hS ?_
  rw [h1]
  refine ⟨fun hi => ?_, fun hi => ⟨fun hi2 => ?_, fun hi2 => ?_⟩⟩
  · rw [if_neg (by omega)]
    exact ⟨h', fr.rf⟩
  · rw [if_pos ⟨by omega, hi2⟩, h2 i.toNat (by omega), mk_aim (hC _ (by omega)) hp]
    refine ⟨by omega, by omega, ⟨⟨?_, ?_⟩, ?_, ?_, ?_⟩, fr.rf.up ⟨by omega, by omega⟩⟩
    · rw [u_ne (Or.inl (by omega)), List.length_set]; exact h1
    · exact h2.set (fun k hk => u_ne (Or.inr hk)) u_eq
    · rw [up_row (c := t) (by omega), up_row (c := t + 2) (by omega), up_row (c := t + 3) (by omega), up_row (c := t + 4) (by omega)]
      exact h3
    · rw [up_row (c := t) (by omega), up_row (c := t + 5) (by omega), up_row (c := t + 6) (by omega), up_row (c := t + 7) (by omega), up_row (c := t + 8) (by omega)]
      exact h4
    · rw [up_row (c := t) (by omega), up_row (c := t + 9) (by omega)]
      exact h5
  · rw [if_neg (by omega)]
    exact ⟨h', fr.rf⟩
theorem setLast_app {Fn : FF} {n p s v w : Int} : setLast (Fn ++ [(n, p, s, v)]) w = Fn ++ [(n, p, s, w)] := by
  unfold setLast
  rw [List.getLast?_append]
  simp
theorem s_126 {w : Int} (hn : t ∈ m_I9) (hS : St F) (h : TreeC F t C E Fn U) (hl : Fn.length ≤ 40) :
    C_126 t w F (fun F' => TreeC F' t C E (setLast Fn w) U ∧ fr (TP t) F F') m_no := by
  have h' := h
  obtain ⟨h1, h2, ⟨h3, h4, h5, h6, h7⟩, h8⟩ := h
  refine c_126 hn hS ?_
  rw [h3]
  refine ⟨fun hp => ?_, fun hp => ?_⟩
  · have hne : Fn ≠ [] := fun e => by rw [e] at hp; cases hp
    obtain ⟨Fn0, x, rfl⟩ : ∃ Fn0 x, Fn = Fn0 ++ [x] := ⟨Fn.dropLast, Fn.getLast hne, (List.dropLast_concat_getLast hne).symm⟩
    obtain ⟨n, p, s, v⟩ := x
    rw [setLast_app]
    have hlen : (Fn0 ++ [(n, p, s, v)]).length = Fn0.length + 1 := by rw [List.length_append, List.length_singleton]
    rw [hlen] at h3 hp hl ⊢
    have e : (((Fn0.length + 1 : Nat) : Int) - 1).toNat = Fn0.length := by omega
    rw [e]
    refine ⟨by omega, by omega, ⟨?_, ?_, ⟨?_, ?_, ?_, ?_, ?_⟩, ?_⟩, fr.rf.up ⟨by omega, by omega⟩⟩
    · rw [up_row (c := t) (by omega), up_row (c := t + 1) (by omega)]; exact h1
    · rw [up_row (c := t) (by omega), up_row (c := t + 2) (by omega), up_row (c := t + 3) (by omega), up_row (c := t + 4) (by omega)]; exact h2
    · rw [up_row (c := t) (by omega), List.length_append, List.length_singleton]; exact h3
    · rw [up_row (by omega)]; rw [List.map_append] at h4 ⊢; exact h4
    · rw [up_row (by omega)]; rw [List.map_append] at h5 ⊢; exact h5
    · rw [up_row (by omega)]; rw [List.map_append] at h6 ⊢; exact h6
    · rw [List.map_append] at h7 ⊢
      intro i hi
      rw [List.length_append, List.length_map] at hi
      simp only [List.map_cons, List.map_nil, List.length_singleton] at hi
      rw [gx_app, List.length_map]
      by_cases e2 : i < Fn0.length
      · rw [if_pos e2, u_ne (Or.inr (by omega))]
        have := h7 i (by rw [List.length_append, List.length_map]; omega)
        rw [gx_app, List.length_map, if_pos e2] at this
        exact this
      · rw [if_neg e2]
        obtain rfl : i = Fn0.length := by omega
        rw [u_eq, Nat.sub_self]
        rfl
    · rw [up_row (c := t) (by omega), up_row (c := t + 9) (by omega)]; exact h8
  · have : Fn = [] := by
      cases Fn with
      | nil => rfl
      | cons x r => rw [List.length_cons] at hp; omega
    subst this
    exact ⟨h', fr.rf⟩
end M62a
/-- the open blocks, innermost first -/
def StAt (A B : Nat → Int) : List (Int × Int) → Prop
  | [] => True
  | (b, s) :: r => A r.length = b ∧ B r.length = s ∧ StAt A B r
/-- the open levels of an expr, innermost first -/
def LvAt (F : MF) (n : Nat) : List Lv → Prop
  | [] => True
  | l :: r => F (n + 4) r.length = shp l ∧ F (n + 5) r.length = opn l ∧ F (n + 6) r.length = szs l ∧ F (n + 7) r.length = nts l ∧ F (n + 8) r.length = tms l ∧ F (n + 9) r.length = ads l ∧ F (n + 10) r.length = cps l ∧ LvAt F n r
theorem StAt.cong {A B A' B' : Nat → Int} : ∀ {S : List (Int × Int)}, StAt A B S → (∀ i, i < S.length → A' i = A i ∧ B' i = B i) → StAt A' B' S
  | [], _, _ => trivial
  | (b, s) :: r, h, k => ⟨(k r.length (Nat.lt_succ_self _)).1.trans h.1, (k r.length (Nat.lt_succ_self _)).2.trans h.2.1, StAt.cong h.2.2 (fun i hi => k i (Nat.lt_succ_of_lt hi))⟩
theorem LvAt.cong {F F' : MF} {n : Nat} : ∀ {L : List Lv}, LvAt F n L → (∀ i, i < L.length → ∀ c, n + 4 ≤ c → c ≤ n + 10 → F' c i = F c i) → LvAt F' n L
  | [], _, _ => trivial
  | l :: r, h, k => by
    have k' := k r.length (Nat.lt_succ_self _)
    exact ⟨(k' _ (by omega) (by omega)).trans h.1, (k' _ (by omega) (by omega)).trans h.2.1, (k' _ (by omega) (by omega)).trans h.2.2.1, (k' _ (by omega) (by omega)).trans h.2.2.2.1, (k' _ (by omega) (by omega)).trans h.2.2.2.2.1, (k' _ (by omega) (by omega)).trans h.2.2.2.2.2.1, (k' _ (by omega) (by omega)).trans h.2.2.2.2.2.2.1, LvAt.cong h.2.2.2.2.2.2.2 (fun i hi => k i (Nat.lt_succ_of_lt hi))⟩
/-- what the reader is given: its row of classes, and the tree -/
def RB (F : MF) (n t b : Nat) (K : List Int) : Prop := F n 0 = (b : Int) ∧ F n 1 = (K.length : Int) ∧ F n 3 = (t : Int) ∧ AL (F b) K
def RP (n t : Nat) : Nat → Prop := fun c => c = n ∨ (n + 2 ≤ c ∧ c ≤ n + 10) ∨ (t ≤ c ∧ c ≤ t + 9)
theorem RP.lv {n t k : Nat} (hk : 2 ≤ k ∧ k ≤ 10) : RP n t (n + k) := Or.inr (Or.inl ⟨by omega, by omega⟩)
/-- what stands fast: the cells lie apart -/
def RX (n t b z : Nat) (K : List Int) : Prop := n ∈ m_I4 ∧ t ∈ m_I9 ∧ m_KD[b]? = some (100, z) ∧ K.length ≤ z ∧ K.length ≤ 195 ∧ (∀ c, RP n t c → c ≠ b) ∧ (t + 9 < n ∨ n + 10 < t)
def RC (F : MF) (n t b : Nat) (K : List Int) (a : Nat) (S : List (Int × Int)) (C : List Int) (E : EE) (Fn : FF) (U : List Int) : Prop :=
  RB F n t b K ∧ F n 2 = (a : Int) ∧ (F n 6 = (S.length : Int) ∧ StAt (F (n + 2)) (F (n + 3)) S) ∧ TreeC F t C E Fn U
section M62
variable {F : MF} {n t b z a : Nat} {K : List Int} {S : List (Int × Int)} {C : List Int} {E : EE} {Fn : FF} {U : List Int}
theorem s_59 {i : Nat} (hX : RX n t b z K) (hS : St F) (h : RB F n t b K) : C_59 n (i : Int) F (fun r F' => r = kn K i ∧ F' = F) m_no := by
  obtain ⟨h1, h2, h3, h4⟩ := h
  refine c_59 hX.1 hS ⟨fun hi => by omega, fun _ => ⟨fun hi => ⟨b, z, h1, hX.2.2.1, ?_, ?_, rfl⟩, fun hi => ⟨?_, rfl⟩⟩⟩
  · have := hX.2.2.2.1
    omega
  · rw [Int.toNat_natCast, h4 i (by omega)]
    unfold kn gx
    rw [List.getD_eq_getElem?_getD, List.getD_eq_getElem?_getD, List.getElem?_eq_getElem (by omega)]
    rfl
  · exact (kn_end (by omega)).symm
/-- the tree is another one; the rest of the reader is as it was -/
theorem RC.tree {F' : MF} {C' : List Int} {E' : EE} {Fn' : FF} {U' : List Int} (hX : RX n t b z K) (h : RC F n t b K a S C E Fn U) (hf : fr (TP t) F F') (ht : TreeC F' t C' E' Fn' U') : RC F' n t b K a S C' E' Fn' U' := by
  have hs := hX.2.2.2.2.2.2
  have hb := hX.2.2.2.2.2.1
  have e0 : F' n = F n := hf n (fun h => by unfold TP at h; omega)
  have eb : F' b = F b := hf b (fun h => hb b (Or.inr (Or.inr h)) rfl)
  have e2 : F' (n + 2) = F (n + 2) := hf _ (fun h => by unfold TP at h; omega)
  have e3 : F' (n + 3) = F (n + 3) := hf _ (fun h => by unfold TP at h; omega)
  obtain ⟨h1, h2, h3, -⟩ := h
  refine ⟨?_, ?_, ?_, ht⟩
  · unfold RB; rw [e0, eb]; exact h1
  · rw [e0]; exact h2
  · rw [e0, e2, e3]; exact h3
/-- the place is another one -/
theorem RC.pos {a' : Nat} {v : Int} (hX : RX n t b z K) (h : RC F n t b K a S C E Fn U) (hv : v = (a' : Int)) : RC (m_up F n 2 v) n t b K a' S C E Fn U := by
  have hs := hX.2.2.2.2.2.2
  have hb := hX.2.2.2.2.2.1 n (Or.inl rfl)
  obtain ⟨⟨g1, g2, g3, g4⟩, h2, h3, h4⟩ := h
  refine ⟨⟨?_, ?_, ?_, ?_⟩, ?_, ?_, h4.cong (fun c h5 h6 => up_row (by omega))⟩
  · rw [u_ne (Or.inr (by decide))]; exact g1
  · rw [u_ne (Or.inr (by decide))]; exact g2
  · rw [u_ne (Or.inr (by decide))]; exact g3
  · rw [up_row (fun e => hb e.symm)]; exact g4
  · rw [u_eq]; exact hv
  · rw [u_ne (Or.inr (by decide)), up_row (by omega), up_row (by omega)]; exact h3
theorem s_eatY {k : Int} (hX : RX n t b z K) (hS : St F) (h : RC F n t b K a S C E Fn U) (hk : kn K a = k) (ha : a ≤ 1000) :
    C_60 n k F (fun r F' => r = 1 ∧ RC F' n t b K (a + 1) S C E Fn U ∧ F' = m_up F n 2 ((a : Int) + 1)) m_no := by
  refine c_60 hX.1 hS ?_
  rw [h.2.1]
  refine CaI.on (s_59 hX hS h.1) ?_
  rintro r F1 hS1 ⟨rfl, rfl⟩
  rw [h.2.1]
  exact ⟨fun _ => ⟨by omega, rfl, h.pos hX (by omega), rfl⟩, fun h2 => absurd hk h2⟩
theorem s_eatN {k : Int} (hX : RX n t b z K) (hS : St F) (h : RC F n t b K a S C E Fn U) (hk : kn K a ≠ k) : C_60 n k F (fun r F' => r = 0 ∧ F' = F) m_no := by
  refine c_60 hX.1 hS ?_
  rw [h.2.1]
  refine CaI.on (s_59 hX hS h.1) ?_
  rintro r F1 hS1 ⟨rfl, rfl⟩
  exact ⟨fun h2 => absurd h2 hk, fun _ => ⟨rfl, rfl⟩⟩
theorem bgn_61 {k : Int} : p_61 F k ↔ bgn k = true := by
  unfold p_61 bgn
  rw [decide_eq_true_iff]
theorem s_65 {x y : Int} (hX : RX n t b z K) (hS : St F) (h : RC F n t b K a S C E Fn U) (hC : C.length < 640) (ha : a < 200) (hSl : S.length < 200) :
    C_65 n x y F (fun F' => RC F' n t b K (a + 1) ((x, y) :: S) (C ++ [mk 3 a 0]) E Fn U ∧ fr (RP n t) F F') m_no := by
  have hs := hX.2.2.2.2.2.2
  have hb := hX.2.2.2.2.2.1
  refine c_65 hX.1 hS ⟨t, h.1.2.2.1, hX.2.1, ?_⟩
  rw [h.2.1]
  refine CaV.on (s_121 (o := 3) (p := a) (e := 0) hX.2.1 hS h.2.2.2 hC (by omega) (by omega) (by omega)) ?_
  rintro F1 hS1 ⟨ht, hf⟩
  have h1 := h.tree hX hf ht
  obtain ⟨⟨g1, g2, g3, g4⟩, h2, ⟨h3, h4⟩, h5⟩ := h1
  rw [h2, h3, Int.toNat_natCast]
  refine ⟨by omega, ⟨fun _ => ⟨by omega, by omega, by omega, ⟨⟨?_, ?_, ?_, ?_⟩, ?_, ⟨?_, ?_⟩, ?_⟩, ?_⟩, fun h => by omega⟩⟩
  · rw [u_ne (Or.inr (by decide)), u_ne (Or.inl (by omega)), u_ne (Or.inl (by omega)), u_ne (Or.inr (by decide))]; exact g1
  · rw [u_ne (Or.inr (by decide)), u_ne (Or.inl (by omega)), u_ne (Or.inl (by omega)), u_ne (Or.inr (by decide))]; exact g2
  · rw [u_ne (Or.inr (by decide)), u_ne (Or.inl (by omega)), u_ne (Or.inl (by omega)), u_ne (Or.inr (by decide))]; exact g3
  · have b0 := hb n (Or.inl rfl)
    have b2 := hb (n + 2) (Or.inr (Or.inl ⟨by omega, by omega⟩))
    have b3 := hb (n + 3) (Or.inr (Or.inl ⟨by omega, by omega⟩))
    rw [up_row (by omega), up_row (by omega), up_row (by omega), up_row (by omega)]
    exact g4
  · rw [u_ne (Or.inr (by decide)), u_ne (Or.inl (by omega)), u_ne (Or.inl (by omega)), u_eq]; omega
  · rw [u_eq, List.length_cons]; omega
  · refine ⟨?_, ?_, h4.cong (fun i hi => ⟨?_, ?_⟩)⟩
    · rw [u_ne (Or.inl (by omega)), u_ne (Or.inl (by omega)), u_eq]
    · rw [u_ne (Or.inl (by omega)), u_eq]
    · rw [u_ne (Or.inl (by omega)), u_ne (Or.inl (by omega)), u_ne (Or.inr (by omega)), u_ne (Or.inl (by omega))]
    · rw [u_ne (Or.inl (by omega)), u_ne (Or.inr (by omega)), u_ne (Or.inl (by omega)), u_ne (Or.inl (by omega))]
  · exact h5.cong (fun c h6 h7 => by rw [up_row (by omega), up_row (by omega), up_row (by omega), up_row (by omega)])
  · have hf2 : fr (RP n t) F F1 := hf.mo (fun c h => Or.inr (Or.inr h))
    exact (((hf2.up (Or.inl rfl)).up (RP.lv (by omega))).up (RP.lv (by omega))).up (Or.inl rfl)
/-- skipping -/
theorem skS_ge (K : List Int) : ∀ d j, j ≤ skS K d j := by
  intro d
  induction d with
  | zero => intro j; exact Nat.le_refl _
  | succ d ih =>
    intro j
    unfold skS
    split
    · split <;> omega
    · have := ih (j + 1)
      omega
theorem s_67 (hX : RX n t b z K) : ∀ (d a : Nat) (F : MF), a + d = K.length → St F → RC F n t b K a S C E Fn U →
    L_67_7 n 1 (a : Int) F (fun F' => RC F' n t b K (skS K d a) S C E Fn U ∧ fr (fun c => c = n) F F') m_no := by
  have hK := hX.2.2.2.2.1
  intro d
  induction d with
  | zero =>
    intro a F ha hS h
    refine b_67_7 hX.1 hS ⟨fun h2 => ?_, fun _ => ⟨h, fr.rf⟩⟩
    rw [h.1.2.1] at h2
    omega
  | succ d ih =>
    intro a F ha hS h
    refine b_67_7 hX.1 hS ⟨fun _ => ⟨fun h2 => absurd h2 (by decide), fun _ => ?_⟩, fun h2 => ?_⟩
    · rw [h.2.1]
      refine CaI.on (s_59 hX hS h.1) ?_
      rintro r F1 hS1 ⟨rfl, rfl⟩
      have hstop : ∀ v : Int, v = kn K a → stp v = true → L_67_57 n (a : Int) v F1 (fun F' => RC F' n t b K (skS K (d + 1) a) S C E Fn U ∧ fr (fun c => c = n) F1 F') m_no := by
        rintro v rfl hst
        unfold skS
        rw [if_pos hst]
        refine b_67_57 hX.1 hS1 ⟨fun h3 => ?_, fun h3 => ?_⟩
        · rw [if_pos h3, h.2.1]
          refine ⟨by omega, by omega, b_67_7 hX.1 (hS1.fld (ok_4 hX.1) rk_4_2) ⟨fun _ => ⟨fun _ => ⟨h.pos hX (by omega), fr.rf.up (by rfl)⟩, fun h4 => absurd rfl h4⟩, fun _ => ⟨h.pos hX (by omega), fr.rf.up (by rfl)⟩⟩⟩
        · rw [if_neg h3]
          exact ⟨by omega, b_67_7 hX.1 hS1 ⟨fun _ => ⟨fun _ => ⟨h, fr.rf⟩, fun h4 => absurd rfl h4⟩, fun _ => ⟨h, fr.rf⟩⟩⟩
      refine ⟨fun h3 => hstop _ rfl (by rw [h3]; decide), fun h3 => ⟨fun h4 => hstop _ rfl (by rw [h4]; decide), fun h4 => ⟨fun h5 => hstop _ rfl (by rw [h5]; decide), fun h5 => ⟨fun h6 => hstop _ rfl ?_, fun h6 => ?_⟩⟩⟩⟩
      · unfold stp
        rw [bgn_61.mp h6, Bool.or_true]
      · have hns : ¬ stp (kn K a) = true := by
          unfold stp
          rw [Bool.or_eq_true, decide_eq_true_iff]
          rintro (h7 | h7)
          · omega
          · exact h6 (bgn_61.mpr h7)
        unfold skS
        rw [if_neg hns, h.2.1]
        refine ⟨by omega, by omega, ?_⟩
        have := ih (a + 1) (m_up F1 n 2 ((a : Int) + 1)) (by omega) (hS1.fld (ok_4 hX.1) rk_4_2) (h.pos hX (by omega))
        rw [show ((a + 1 : Nat) : Int) = (a : Int) + 1 by omega] at this
        exact EvV.mono this (fun F' _ k => ⟨k.1, (fr.rf.up (by rfl)).tr k.2⟩) (fun _ _ _ h => h)
    · rw [h.1.2.1] at h2
      omega
theorem s_skip (hX : RX n t b z K) (hS : St F) (h : RC F n t b K a S C E Fn U) (ha : a ≤ K.length) :
    C_67 n F (fun F' => RC F' n t b K (skS K (K.length - a) a) S C E Fn U ∧ fr (fun c => c = n) F F') m_no := by
  refine c_67 hX.1 hS ?_
  rw [h.2.1]
  exact s_67 hX (K.length - a) a F (by omega) hS h
theorem l_62 (hX : RX n t b z K) : ∀ (d a : Nat) (F : MF), a + d = K.length → St F → RC F n t b K a S C E Fn U →
    L_62_61 n (a : Int) F (fun F' => RC F' n t b K (skI K d a) S C E Fn U ∧ fr (fun c => c = n) F F') m_no := by
  have hK := hX.2.2.2.2.1
  intro d
  induction d with
  | zero =>
    intro a F ha hS h
    refine b_62_61 hX.1 hS ⟨fun h2 => ?_, fun _ => ⟨h, fr.rf⟩⟩
    rw [h.1.2.1] at h2
    omega
  | succ d ih =>
    intro a F ha hS h
    refine b_62_61 hX.1 hS ⟨fun _ => ?_, fun h2 => ?_⟩
    · rw [h.2.1]
      refine CaI.on (s_59 hX hS h.1) ?_
      rintro r F1 hS1 ⟨rfl, rfl⟩
      unfold skI
      refine ⟨fun h3 => ?_, fun h3 => ?_⟩
      · rw [if_pos (bgn_61.mp h3)]
        exact ⟨h, fr.rf⟩
      · rw [if_neg (fun e => h3 (bgn_61.mpr e)), h.2.1]
        refine ⟨by omega, by omega, ?_⟩
        have := ih (a + 1) (m_up F1 n 2 ((a : Int) + 1)) (by omega) (hS1.fld (ok_4 hX.1) rk_4_2) (h.pos hX (by omega))
        rw [show ((a + 1 : Nat) : Int) = (a : Int) + 1 by omega] at this
        exact EvV.mono this (fun F' _ k => ⟨k.1, (fr.rf.up (by rfl)).tr k.2⟩) (fun _ _ _ h => h)
    · rw [h.1.2.1] at h2
      omega
end M62
