/-! ONE STEP WHERE THE CELLS LIE ELSEWHERE -/
theorem m_own_lt (M : Nat) : m_own M ≤ 200 := by
  unfold m_own
  rw [List.getD_eq_getElem?_getD]
  cases h : m_owns[M]? with
  | none => decide
  | some x =>
    have h2 : ∀ y ∈ m_owns, y ≤ 200 := by decide +kernel
    exact h2 x (List.mem_of_getElem? h)
theorem m_fty_lt {ci k : Nat} (h : m_fty ci k ≠ 9) : ci < 13 := by
  by_cases h2 : ci < 13
  · exact h2
  · exfalso
    apply h
    unfold m_fty
    have h3 : m_flds.length ≤ 13 := by decide +kernel
    rw [List.getD_eq_getElem?_getD (l := m_flds), List.getElem?_eq_none (by omega)]
    rfl
def RkO (D : Nat → Prop) (σ : Nat → Nat) (K K2 : MK) (F F2 : MF) (c s c2 s2 : Nat) (r r2 : Except ME MS) : Prop :=
  (∀ (pc' : Nat) (ls' : ML) (st' : List MV) (F' : MF) (K' : MK) (c' s' : Nat), r = .ok (pc', ls', st', (F', K', c', s')) → K'.length = K.length → K' = K ∧ c' = c ∧ s' = s ∧
    ∃ F2', r2 = .ok (pc', lm σ ls', st'.map (vm σ), (F2', K2, c2, s2)) ∧ HR D σ K K2 F' F2' ∧ gl D ls' ∧ gs D st' ∧ (∀ b, (∀ a, D a → σ a ≠ b) → F2' b = F2 b)) ∧
  (∀ (t N : Nat) (xs y : List MV), r = .error (t, N, xs, y) → t ≠ 0 → r2 = .error (t, N, xs.map (vm σ), y.map (vm σ)) ∧ gs D xs ∧ gs D y)
section Ms1
variable {D : Nat → Prop} {σ : Nat → Nat} {K K2 : MK} {F F2 : MF} {c s c2 s2 pc : Nat} {ls : ML} {st : List MV} {q : LK}
theorem rk_ko {r2 : Except ME MS} : RkO D σ K K2 F F2 c s c2 s2 m_ko r2 := ⟨fun _ _ _ _ _ _ _ h => (by cases h), fun t N xs y h ht => by cases h; exact absurd rfl ht⟩
theorem rk_ok (hR : HR D σ K K2 F F2) {pc' : Nat} {ls' : ML} {st' : List MV} (hl : gl D ls') (hs : gs D st') : RkO D σ K K2 F F2 c s c2 s2 (.ok (pc', ls', st', (F, K, c, s))) (.ok (pc', lm σ ls', st'.map (vm σ), (F2, K2, c2, s2))) :=
  ⟨fun _ _ _ _ _ _ _ h _ => (by cases h; exact ⟨rfl, rfl, rfl, F2, rfl, hR, hl, hs, fun _ _ => rfl⟩), fun t N xs y h => by cases h⟩
theorem rk_up (hR : HR D σ K K2 F F2) {pc' a i : Nat} {k : Nat × Nat} {x : Int} {ls' : ML} {st' : List MV} (ha : D a) (hk : K[a]? = some k) (hx : isR k.1 i = true → 0 ≤ x → D x.toNat) (hl : gl D ls') (hs : gs D st') :
    RkO D σ K K2 F F2 c s c2 s2 (.ok (pc', ls', st', (m_up F a i x, K, c, s))) (.ok (pc', lm σ ls', st'.map (vm σ), (m_up F2 (σ a) i (xm σ (isR k.1 i) x), K2, c2, s2))) :=
  ⟨fun _ _ _ _ _ _ _ h _ => (by cases h; exact ⟨rfl, rfl, rfl, _, rfl, hR.up ha hk hx, hl, hs, fun b hb => by funext j; exact u_ne (Or.inl (fun e => hb a ha e.symm))⟩), fun t N xs y h => by cases h⟩
theorem rk_er {t N : Nat} {xs y : List MV} (hx : gs D xs) (hy : gs D y) : RkO D σ K K2 F F2 c s c2 s2 (.error (t, N, xs, y)) (.error (t, N, xs.map (vm σ), y.map (vm σ))) :=
  ⟨fun _ _ _ _ _ _ _ h => (by cases h), fun t N xs y h _ => by cases h; exact ⟨rfl, hx, hy⟩⟩
theorem rk_al {kd n : Nat} {pc' : Nat} {d : Int} {ls' : ML} {st' : List MV} {r2 : Except ME MS} : RkO D σ K K2 F F2 c s c2 s2 (.ok (pc', ls', st', m_new kd n d (F, K, c, s))) r2 :=
  ⟨fun _ _ _ _ _ _ _ h hl => (by
    cases h
    have hl : (K ++ [(kd, n)]).length = K.length := hl
    rw [List.length_append, List.length_singleton] at hl
    omega), fun t N xs y h => by cases h⟩
theorem rk_alo {ci n : Nat} {pc' : Nat} {ls' : ML} {st' : List MV} {r2 : Except ME MS} : RkO D σ K K2 F F2 c s c2 s2 (.ok (pc', ls', st', m_newo ci n (F, K, c, s))) r2 :=
  ⟨fun _ _ _ _ _ _ _ h hl => (by
    cases h
    have hl : (K ++ [(ci, n)]).length = K.length := hl
    rw [List.length_append, List.length_singleton] at hl
    omega), fun t N xs y h => by cases h⟩
theorem xm_f {x : Int} : xm σ false x = x := if_neg (fun h => by cases h.1)
theorem isR_n {kd i : Nat} (h : 13 ≤ kd ∧ kd < 110) : isR kd i = false := by
  unfold isR
  rw [if_neg (by omega)]
  exact decide_eq_false (by omega)
theorem isR_a {kd i : Nat} (h : 110 ≤ kd) : isR kd i = true := by
  unfold isR
  rw [if_neg (by omega)]
  exact decide_eq_true h
theorem rk_go (hR : HR D σ K K2 F F2) (hl : gl D ls) (hs : gs D st) {off : Int} : RkO D σ K K2 F F2 c s c2 s2 (m_go pc off ls st (F, K, c, s)) (m_go pc off (lm σ ls) (st.map (vm σ)) (F2, K2, c2, s2)) := by
  unfold m_go
  split
  · exact rk_ok hR hl hs
  · exact rk_ko
theorem rk_put (hR : HR D σ K K2 F F2) (hl : gl D ls) (hs : gs D st) {i : Nat} {v : MV} (hv : gv D v) : RkO D σ K K2 F F2 c s c2 s2 (m_put (m_st ls i v) pc st (F, K, c, s)) (m_put (m_st (lm σ ls) i (vm σ v)) pc (st.map (vm σ)) (F2, K2, c2, s2)) := by
  cases h : m_st ls i v with
  | none => exact rk_ko
  | some l =>
    rw [lm_st h]
    exact rk_ok hR (gl_st hl hv h) hs
theorem rk_ldi (hR : HR D σ K K2 F F2) (hl : gl D ls) (hs : gs D st) {i : Nat} : RkO D σ K K2 F F2 c s c2 s2 (m_ldi ls i pc st (F, K, c, s)) (m_ldi (lm σ ls) i pc (st.map (vm σ)) (F2, K2, c2, s2)) := by
  unfold m_ldi
  split
  · next x hx =>
    rw [lm_some hx]
    exact rk_ok hR hl (gs_c.mpr ⟨gv_n (by decide), hs⟩)
  · exact rk_ko
theorem rk_ldl (hR : HR D σ K K2 F F2) (hl : gl D ls) (hs : gs D st) {i : Nat} : RkO D σ K K2 F F2 c s c2 s2 (m_ldl ls i pc st (F, K, c, s)) (m_ldl (lm σ ls) i pc (st.map (vm σ)) (F2, K2, c2, s2)) := by
  unfold m_ldl
  split
  · next x hx =>
    rw [lm_some hx]
    exact rk_ok hR hl (gs_c.mpr ⟨gv_n (by decide), hs⟩)
  · exact rk_ko
theorem rk_lda (hR : HR D σ K K2 F F2) (hl : gl D ls) (hs : gs D st) {i : Nat} : RkO D σ K K2 F F2 c s c2 s2 (m_lda ls i pc st (F, K, c, s)) (m_lda (lm σ ls) i pc (st.map (vm σ)) (F2, K2, c2, s2)) := by
  unfold m_lda
  split
  · next t x hx =>
    have e := lm_some (σ := σ) hx
    have e1 : (vm σ (t + 2, x)).1 = t + 2 := vm_t
    have e3 := rk_ok (c := c) (s := s) (c2 := c2) (s2 := s2) (pc' := pc) hR hl (st' := (t + 2, x) :: st) (gs_c.mpr ⟨gl_at hl hx, hs⟩)
    rw [List.map_cons] at e3
    have e : (lm σ ls)[i]? = some (some (vm σ (t + 2, x))) := e
    generalize vm σ (t + 2, x) = w at e e1 e3
    obtain ⟨w1, w2⟩ := w
    have e1 : w1 = t + 2 := e1
    subst e1
    rw [e]
    exact e3
  · exact rk_ko
theorem rk_stv (hR : HR D σ K K2 F F2) (hl : gl D ls) (hs : gs D st) {lo hi i : Nat} : RkO D σ K K2 F F2 c s c2 s2 (m_stv lo hi i pc ls st (F, K, c, s)) (m_stv lo hi i pc (lm σ ls) (st.map (vm σ)) (F2, K2, c2, s2)) := by
  unfold m_stv
  cases st with
  | nil => exact rk_ko
  | cons v r =>
    show RkO D σ K K2 F F2 c s c2 s2 (if lo ≤ v.1 ∧ v.1 ≤ hi then _ else _) (if lo ≤ (vm σ v).1 ∧ (vm σ v).1 ≤ hi then _ else _)
    rw [vm_t]
    split
    · exact rk_put hR hl (gs_c.mp hs).2 (gs_c.mp hs).1
    · exact rk_ko
theorem rk_i2 (hR : HR D σ K K2 F F2) (hl : gl D ls) (hs : gs D st) {f : Int → Int → Int} : RkO D σ K K2 F F2 c s c2 s2 (m_i2 f pc ls st (F, K, c, s)) (m_i2 f pc (lm σ ls) (st.map (vm σ)) (F2, K2, c2, s2)) := by
  unfold m_i2
  split
  · next y x r => exact rk_ok hR hl (st' := (0, f x y) :: r) (gs_c.mpr ⟨gv_n (by decide), (gs_c.mp (gs_c.mp hs).2).2⟩)
  · exact rk_ko
theorem rk_l2 (hR : HR D σ K K2 F F2) (hl : gl D ls) (hs : gs D st) {f : Int → Int → Int} : RkO D σ K K2 F F2 c s c2 s2 (m_l2 f pc ls st (F, K, c, s)) (m_l2 f pc (lm σ ls) (st.map (vm σ)) (F2, K2, c2, s2)) := by
  unfold m_l2
  split
  · next y x r => exact rk_ok hR hl (st' := (1, f x y) :: r) (gs_c.mpr ⟨gv_n (by decide), (gs_c.mp (gs_c.mp hs).2).2⟩)
  · exact rk_ko
theorem vm_nn {x : Int} (h : 0 ≤ x) : vm σ (2, x) = (2, ((σ x.toNat : Nat) : Int)) := if_pos ⟨rfl, h⟩
theorem rk_ald (hR : HR D σ K K2 F F2) (hl : gl D ls) (hs : gs D st) {kd tag : Nat} (hk : 13 ≤ kd ∧ kd < 110) (ht : tag ≠ 2) : RkO D σ K K2 F F2 c s c2 s2 (m_ald kd tag pc ls st (F, K, c, s)) (m_ald kd tag pc (lm σ ls) (st.map (vm σ)) (F2, K2, c2, s2)) := by
  unfold m_ald
  split
  · next i a r =>
    have h2 := gs_c.mp (gs_c.mp hs).2
    by_cases h0 : 0 ≤ a
    · obtain ⟨k, k1, k2, -, -, -, k6⟩ := kd_at hR h2.1 h0
      show RkO D σ K K2 F F2 c s c2 s2 _ (match vm σ (0, i) :: vm σ (2, a) :: r.map (vm σ) with | (0, i) :: (2, a) :: r => _ | _ => m_ko)
      rw [vm_nn h0, k1]
      show RkO D σ K K2 F F2 c s c2 s2 _ (if (m_kind (F2, K2, c2, s2) ((σ a.toNat : Nat) : Int)).1 = kd ∧ 0 ≤ i ∧ i < (m_kind (F2, K2, c2, s2) ((σ a.toNat : Nat) : Int)).2 then .ok (pc, lm σ ls, (tag, F2 ((σ a.toNat : Nat) : Int).toNat i.toNat) :: r.map (vm σ), (F2, K2, c2, s2)) else m_ko)
      rw [k2]
      split
      · next hc =>
        have h3 := (k6 i.toNat (by omega)).1
        rw [isR_n (by omega), xm_f] at h3
        rw [Int.toNat_natCast, h3]
        have := rk_ok (c := c) (s := s) (c2 := c2) (s2 := s2) (pc' := pc) hR hl (st' := (tag, F a.toNat i.toNat) :: r) (gs_c.mpr ⟨gv_n ht, h2.2⟩)
        rw [List.map_cons, vm_n ht] at this
        exact this
      · exact rk_ko
    · rw [kd_neg h0, if_neg (fun h => by have := h.2.2; have := h.2.1; have h9 : ((999, 0) : Nat × Nat).2 = 0 := rfl; omega)]
      exact rk_ko
  · exact rk_ko
theorem kd_no {x : Int} {kd : Nat} (h0 : ¬ 0 ≤ x) (h : kd ≠ 999) : ¬ (m_kind (F, K, c, s) x).1 = kd := by
  rw [kd_neg h0]
  exact fun e => h e.symm
theorem rk_ast (hR : HR D σ K K2 F F2) (hl : gl D ls) (hs : gs D st) {kd ty : Nat} (hk : 13 ≤ kd ∧ kd < 110) (hty : ty < 4) : RkO D σ K K2 F F2 c s c2 s2 (m_ast kd ty pc ls st (F, K, c, s)) (m_ast kd ty pc (lm σ ls) (st.map (vm σ)) (F2, K2, c2, s2)) := by
  unfold m_ast
  split
  · next t x i a r =>
    have h2 := gs_c.mp (gs_c.mp (gs_c.mp hs).2).2
    split
    · next hc =>
      have h0 : 0 ≤ a := Classical.byContradiction fun h => kd_no h (by omega) hc.1
      have ht : t ≠ 2 := fun e => by
        have h4 := hc.2.2.2
        subst e
        have h5 : ty = 0 ∨ ty = 1 ∨ ty = 2 ∨ ty = 3 := by omega
        rcases h5 with rfl | rfl | rfl | rfl <;> cases h4
      obtain ⟨k, k1, k2, k3, k4, k5, k6⟩ := kd_at hR h2.1 h0
      rw [k1] at hc
      have e2 : (((t, x) :: (0, i) :: (2, a) :: r : List MV).map (vm σ)) = (t, x) :: (0, i) :: (2, ((σ a.toNat : Nat) : Int)) :: r.map (vm σ) := by
        rw [List.map_cons, List.map_cons, List.map_cons, vm_n ht, vm_n (by decide), vm_nn h0]
      rw [e2]
      show RkO D σ K K2 F F2 c s c2 s2 _ (if (m_kind (F2, K2, c2, s2) ((σ a.toNat : Nat) : Int)).1 = kd ∧ 0 ≤ i ∧ i < (m_kind (F2, K2, c2, s2) ((σ a.toNat : Nat) : Int)).2 ∧ m_fit ty (t, x) = true then .ok (pc, lm σ ls, r.map (vm σ), (m_up F2 ((σ a.toNat : Nat) : Int).toNat i.toNat x, K2, c2, s2)) else m_ko)
      rw [k2, if_pos hc, Int.toNat_natCast]
      have hb : isR k.1 i.toNat = false := isR_n (by omega)
      have := rk_up (c := c) (s := s) (c2 := c2) (s2 := s2) (pc' := pc) (i := i.toNat) (x := x) (ls' := ls) (st' := r) hR k5 k3 (fun e => by rw [hb] at e; cases e) hl h2.2
      rw [hb, xm_f] at this
      exact this
    · exact rk_ko
  · exact rk_ko
theorem rk_atc (hR : HR D σ K K2 F F2) (hl : gl D ls) (hs : gs D st) {lo hi : Nat} : RkO D σ K K2 F F2 c s c2 s2 (m_atc pc ls st (F, K, c, s) lo hi) (m_atc pc (lm σ ls) (st.map (vm σ)) (F2, K2, c2, s2) lo hi) := by
  unfold m_atc
  split
  · next i c9 r =>
    have h2 := gs_c.mp (gs_c.mp hs).2
    split
    · next hc =>
      show RkO D σ K K2 F F2 c s c2 s2 _ (if 0 ≤ i ∧ (lo : Int) ≤ c9 ∧ c9 < hi then _ else _)
      rw [if_pos hc]
      split
      · next x hx => exact rk_ok hR hl (st' := (0, x) :: r) (gs_c.mpr ⟨gv_n (by decide), h2.2⟩)
      · exact rk_ko
    · exact rk_ko
  · exact rk_ko
theorem rk_ascr (hR : HR D σ K K2 F F2) (hl : gl D ls) (hs : gs D st) : RkO D σ K K2 F F2 c s c2 s2 (m_ascr pc ls st (F, K, c, s)) (m_ascr pc (lm σ ls) (st.map (vm σ)) (F2, K2, c2, s2)) := by
  unfold m_ascr
  split
  · next i c9 r =>
    have h2 := gs_c.mp (gs_c.mp hs).2
    show RkO D σ K K2 F F2 c s c2 s2 (if 0 ≤ i ∧ i < F 1000001 0 then .ok (pc, ls, (0, F 1000000 i.toNat) :: r, (F, K, c, s)) else m_ko) (if 0 ≤ i ∧ i < F2 1000001 0 then .ok (pc, lm σ ls, (0, F2 1000000 i.toNat) :: r.map (vm σ), (F2, K2, c2, s2)) else m_ko)
    rw [hR.2.2.1, hR.2.2.2.1]
    split
    · exact rk_ok hR hl (st' := (0, F 1000000 i.toNat) :: r) (gs_c.mpr ⟨gv_n (by decide), h2.2⟩)
    · exact rk_ko
  · exact rk_ko
/-- a load that looks at the second value's tag first -/
theorem rk_ld {f g e : Except ME MS} {f2 g2 e2 : Except ME MS} (hf : RkO D σ K K2 F F2 c s c2 s2 f f2) (hg : RkO D σ K K2 F F2 c s c2 s2 g g2) (he : RkO D σ K K2 F F2 c s c2 s2 e e2) :
    RkO D σ K K2 F F2 c s c2 s2 (match st with
    | _ :: (4, _) :: _ => f
    | _ :: (6, _) :: _ => g
    | _ => e) (match st.map (vm σ) with
    | _ :: (4, _) :: _ => f2
    | _ :: (6, _) :: _ => g2
    | _ => e2) := by
  match st with
  | [] => exact he
  | [v] => exact he
  | v :: (t, x) :: r =>
    show RkO D σ K K2 F F2 c s c2 s2 _ (match vm σ v :: vm σ (t, x) :: r.map (vm σ) with | _ :: (4, _) :: _ => f2 | _ :: (6, _) :: _ => g2 | _ => e2)
    have e1 : (vm σ (t, x)).1 = t := vm_t
    generalize vm σ (t, x) = w at e1
    obtain ⟨w1, w2⟩ := w
    have e1 : w1 = t := e1
    subst e1
    match w1 with
    | 0 => exact he
    | 1 => exact he
    | 2 => exact he
    | 3 => exact he
    | 4 => exact hf
    | 5 => exact he
    | 6 => exact hg
    | n + 7 => exact he
theorem rk_ld4 {f e : Except ME MS} {f2 e2 : Except ME MS} (hf : RkO D σ K K2 F F2 c s c2 s2 f f2) (he : RkO D σ K K2 F F2 c s c2 s2 e e2) :
    RkO D σ K K2 F F2 c s c2 s2 (match st with
    | _ :: (4, _) :: _ => f
    | _ => e) (match st.map (vm σ) with
    | _ :: (4, _) :: _ => f2
    | _ => e2) := by
  match st with
  | [] => exact he
  | [v] => exact he
  | v :: (t, x) :: r =>
    show RkO D σ K K2 F F2 c s c2 s2 _ (match vm σ v :: vm σ (t, x) :: r.map (vm σ) with | _ :: (4, _) :: _ => f2 | _ => e2)
    have e1 : (vm σ (t, x)).1 = t := vm_t
    generalize vm σ (t, x) = w at e1
    obtain ⟨w1, w2⟩ := w
    have e1 : w1 = t := e1
    subst e1
    match w1 with
    | 0 => exact he
    | 1 => exact he
    | 2 => exact he
    | 3 => exact he
    | 4 => exact hf
    | n + 5 => exact he
theorem rk_aald (hR : HR D σ K K2 F F2) (hl : gl D ls) (hs : gs D st) : RkO D σ K K2 F F2 c s c2 s2 (m_aald pc ls st (F, K, c, s)) (m_aald pc (lm σ ls) (st.map (vm σ)) (F2, K2, c2, s2)) := by
  unfold m_aald
  split
  · next i a r =>
    have h2 := gs_c.mp (gs_c.mp hs).2
    split
    · next hc =>
      have h0 : 0 ≤ a := Classical.byContradiction fun h => by rw [kd_neg h] at hc; exact absurd hc.2.1 (by decide)
      obtain ⟨k, k1, k2, k3, k4, k5, k6⟩ := kd_at hR h2.1 h0
      rw [k1] at hc
      have hc5 : 0 ≤ F a.toNat i.toNat := hc.2.2.2.2
      obtain ⟨k7, k8⟩ := k6 i.toNat (by omega)
      have hb : isR k.1 i.toNat = true := isR_a hc.1
      rw [hb] at k7 k8
      have k9 : xm σ true (F a.toNat i.toNat) = ((σ (F a.toNat i.toNat).toNat : Nat) : Int) := if_pos ⟨rfl, hc5⟩
      rw [k9] at k7
      have e2 : (((0, i) :: (2, a) :: r : List MV).map (vm σ)) = (0, i) :: (2, ((σ a.toNat : Nat) : Int)) :: r.map (vm σ) := by
        rw [List.map_cons, List.map_cons, vm_n (by decide), vm_nn h0]
      rw [e2]
      show RkO D σ K K2 F F2 c s c2 s2 (.ok (pc, ls, (2, F a.toNat i.toNat) :: r, (F, K, c, s))) (if 110 ≤ (m_kind (F2, K2, c2, s2) ((σ a.toNat : Nat) : Int)).1 ∧ (m_kind (F2, K2, c2, s2) ((σ a.toNat : Nat) : Int)).1 < 150 ∧ 0 ≤ i ∧ i < (m_kind (F2, K2, c2, s2) ((σ a.toNat : Nat) : Int)).2 ∧ 0 ≤ F2 ((σ a.toNat : Nat) : Int).toNat i.toNat then .ok (pc, lm σ ls, (2, F2 ((σ a.toNat : Nat) : Int).toNat i.toNat) :: r.map (vm σ), (F2, K2, c2, s2)) else m_ko)
      rw [k2, Int.toNat_natCast, k7, if_pos ⟨hc.1, hc.2.1, hc.2.2.1, hc.2.2.2.1, Int.natCast_nonneg _⟩]
      have := rk_ok (c := c) (s := s) (c2 := c2) (s2 := s2) (pc' := pc) hR hl (st' := (2, F a.toNat i.toNat) :: r) (gs_c.mpr ⟨fun _ h => k8 rfl h, h2.2⟩)
      rw [List.map_cons, vm_nn hc5] at this
      exact this
    · exact rk_ko
  · exact rk_ko
theorem rk_aast (hR : HR D σ K K2 F F2) (hl : gl D ls) (hs : gs D st) : RkO D σ K K2 F F2 c s c2 s2 (m_aast q pc ls st (F, K, c, s)) (m_aast q pc (lm σ ls) (st.map (vm σ)) (F2, K2, c2, s2)) := by
  unfold m_aast
  split
  · next x i a r =>
    have h1 := gs_c.mp hs
    have h2 := gs_c.mp (gs_c.mp h1.2).2
    split
    · next hc =>
      have hx0 : 0 ≤ x := Classical.byContradiction fun h => by have := hc.2.1; rw [kd_neg h] at this; exact absurd this (by decide)
      have h0 : 0 ≤ a := Classical.byContradiction fun h => by
        have h5 := hc.1
        have h6 := hc.2.1
        rw [kd_neg h] at h5
        have h5 : 999 = 110 + (m_kind (F, K, c, s) x).1 := h5
        omega
      obtain ⟨k, k1, k2, k3, k4, k5, k6⟩ := kd_at hR h2.1 h0
      obtain ⟨j, j1, j2, j3, j4, j5, j6⟩ := kd_at hR h1.1 hx0
      rw [k1, j1] at hc
      have e2 : (((2, x) :: (0, i) :: (2, a) :: r : List MV).map (vm σ)) = (2, ((σ x.toNat : Nat) : Int)) :: (0, i) :: (2, ((σ a.toNat : Nat) : Int)) :: r.map (vm σ) := by
        rw [List.map_cons, List.map_cons, List.map_cons, vm_nn hx0, vm_n (by decide), vm_nn h0]
      rw [e2]
      show RkO D σ K K2 F F2 c s c2 s2 _ (if (m_kind (F2, K2, c2, s2) ((σ a.toNat : Nat) : Int)).1 = 110 + (m_kind (F2, K2, c2, s2) ((σ x.toNat : Nat) : Int)).1 ∧ (m_kind (F2, K2, c2, s2) ((σ x.toNat : Nat) : Int)).1 < 13 ∧ 0 ≤ i ∧ i < (m_kind (F2, K2, c2, s2) ((σ a.toNat : Nat) : Int)).2 then .ok (pc, lm σ ls, r.map (vm σ), (m_up F2 ((σ a.toNat : Nat) : Int).toNat i.toNat ((σ x.toNat : Nat) : Int), K2, c2, s2)) else m_ko)
      rw [k2, j2, if_pos hc, Int.toNat_natCast]
      have hb : isR k.1 i.toNat = true := isR_a (by omega)
      have := rk_up (c := c) (s := s) (c2 := c2) (s2 := s2) (pc' := pc) (i := i.toNat) (x := x) (ls' := ls) (st' := r) hR k5 k3 (fun _ _ => j5) hl h2.2
      rw [hb, show xm σ true x = ((σ x.toNat : Nat) : Int) from if_pos ⟨rfl, hx0⟩] at this
      exact this
    · exact rk_ko
  · exact rk_ko
theorem rk_alen (hR : HR D σ K K2 F F2) (hl : gl D ls) (hs : gs D st) : RkO D σ K K2 F F2 c s c2 s2 (m_alen pc ls st (F, K, c, s)) (m_alen pc (lm σ ls) (st.map (vm σ)) (F2, K2, c2, s2)) := by
  unfold m_alen
  split
  · next a r =>
    have h2 := gs_c.mp hs
    split
    · next hc =>
      have h0 : 0 ≤ a := Classical.byContradiction fun h => by rw [kd_neg h] at hc; exact absurd hc.2 (by decide)
      obtain ⟨k, k1, k2, k3, k4, k5, k6⟩ := kd_at hR h2.1 h0
      rw [k1] at hc ⊢
      have e2 : (((2, a) :: r : List MV).map (vm σ)) = (2, ((σ a.toNat : Nat) : Int)) :: r.map (vm σ) := by rw [List.map_cons, vm_nn h0]
      rw [e2]
      show RkO D σ K K2 F F2 c s c2 s2 _ (if 100 ≤ (m_kind (F2, K2, c2, s2) ((σ a.toNat : Nat) : Int)).1 ∧ (m_kind (F2, K2, c2, s2) ((σ a.toNat : Nat) : Int)).1 < 150 then .ok (pc, lm σ ls, (0, ((m_kind (F2, K2, c2, s2) ((σ a.toNat : Nat) : Int)).2 : Int)) :: r.map (vm σ), (F2, K2, c2, s2)) else m_ko)
      rw [k2, if_pos hc]
      exact rk_ok hR hl (st' := (0, (k.2 : Int)) :: r) (gs_c.mpr ⟨gv_n (by decide), h2.2⟩)
    · exact rk_ko
  · next c9 r =>
    split
    · next hc =>
      show RkO D σ K K2 F F2 c s c2 s2 _ (if 2 ≤ c9 ∧ c9 < 34 then _ else _)
      rw [if_pos hc]
      exact rk_ok hR hl (st' := (0, ((m_ct c9.toNat).length : Int)) :: r) (gs_c.mpr ⟨gv_n (by decide), (gs_c.mp hs).2⟩)
    · exact rk_ko
  · next x r =>
    show RkO D σ K K2 F F2 c s c2 s2 (.ok (pc, ls, (0, F 1000001 0) :: r, (F, K, c, s))) (.ok (pc, lm σ ls, (0, F2 1000001 0) :: r.map (vm σ), (F2, K2, c2, s2)))
    rw [hR.2.2.2.1]
    exact rk_ok hR hl (st' := (0, F 1000001 0) :: r) (gs_c.mpr ⟨gv_n (by decide), (gs_c.mp hs).2⟩)
  · exact rk_ko
theorem rk_get (hR : HR D σ K K2 F F2) (hl : gl D ls) (hs : gs D st) : RkO D σ K K2 F F2 c s c2 s2 (m_get q pc ls st (F, K, c, s)) (m_get q pc (lm σ ls) (st.map (vm σ)) (F2, K2, c2, s2)) := by
  unfold m_get
  split
  · next a r =>
    have h2 := gs_c.mp hs
    split
    · next hc =>
      have h0 : 0 ≤ a := Classical.byContradiction fun h => by rw [kd_neg h] at hc; exact absurd hc.2 (by show ¬ q.2.1 < 0; omega)
      obtain ⟨k, k1, k2, k3, k4, k5, k6⟩ := kd_at hR h2.1 h0
      rw [k1] at hc
      obtain ⟨k7, k8⟩ := k6 q.2.1 hc.2
      have e2 : (((2, a) :: r : List MV).map (vm σ)) = (2, ((σ a.toNat : Nat) : Int)) :: r.map (vm σ) := by rw [List.map_cons, vm_nn h0]
      rw [e2]
      show RkO D σ K K2 F F2 c s c2 s2 (m_of (m_fty q.1 q.2.1) (F a.toNat q.2.1) pc ls r (F, K, c, s)) (if (m_kind (F2, K2, c2, s2) ((σ a.toNat : Nat) : Int)).1 = q.1 ∧ q.2.1 < (m_kind (F2, K2, c2, s2) ((σ a.toNat : Nat) : Int)).2 then m_of (m_fty q.1 q.2.1) (F2 ((σ a.toNat : Nat) : Int).toNat q.2.1) pc (lm σ ls) (r.map (vm σ)) (F2, K2, c2, s2) else m_ko)
      rw [k2, if_pos hc, Int.toNat_natCast, k7]
      have hb : ∀ ty, m_fty q.1 q.2.1 = ty → ty ≠ 9 → isR k.1 q.2.1 = (ty == 4) := fun ty e h9 => by
        unfold isR
        rw [hc.1, if_pos (m_fty_lt (by rw [e]; exact h9)), e]
      generalize hty : m_fty q.1 q.2.1 = ty
      match ty, hty with
      | 0, hty => rw [hb 0 hty (by decide)]; show RkO D σ K K2 F F2 c s c2 s2 (.ok _) (.ok (pc, lm σ ls, (0, xm σ false _) :: r.map (vm σ), _)); rw [xm_f]; exact rk_ok hR hl (st' := (0, F a.toNat q.2.1) :: r) (gs_c.mpr ⟨gv_n (by decide), h2.2⟩)
      | 1, hty => rw [hb 1 hty (by decide)]; show RkO D σ K K2 F F2 c s c2 s2 (.ok _) (.ok (pc, lm σ ls, (1, xm σ false _) :: r.map (vm σ), _)); rw [xm_f]; exact rk_ok hR hl (st' := (1, F a.toNat q.2.1) :: r) (gs_c.mpr ⟨gv_n (by decide), h2.2⟩)
      | 2, hty => rw [hb 2 hty (by decide)]; show RkO D σ K K2 F F2 c s c2 s2 (.ok _) (.ok (pc, lm σ ls, (0, xm σ false _) :: r.map (vm σ), _)); rw [xm_f]; exact rk_ok hR hl (st' := (0, F a.toNat q.2.1) :: r) (gs_c.mpr ⟨gv_n (by decide), h2.2⟩)
      | 3, hty => rw [hb 3 hty (by decide)]; show RkO D σ K K2 F F2 c s c2 s2 (.ok _) (.ok (pc, lm σ ls, (0, xm σ false _) :: r.map (vm σ), _)); rw [xm_f]; exact rk_ok hR hl (st' := (0, F a.toNat q.2.1) :: r) (gs_c.mpr ⟨gv_n (by decide), h2.2⟩)
      | 4, hty =>
        rw [hb 4 hty (by decide)]
        by_cases hx : 0 ≤ F a.toNat q.2.1
        · show RkO D σ K K2 F F2 c s c2 s2 (if 0 ≤ F a.toNat q.2.1 then .ok (pc, ls, (2, F a.toNat q.2.1) :: r, (F, K, c, s)) else m_ko) (if 0 ≤ xm σ true (F a.toNat q.2.1) then .ok (pc, lm σ ls, (2, xm σ true (F a.toNat q.2.1)) :: r.map (vm σ), (F2, K2, c2, s2)) else m_ko)
          rw [show xm σ true (F a.toNat q.2.1) = ((σ (F a.toNat q.2.1).toNat : Nat) : Int) from if_pos ⟨rfl, hx⟩, if_pos hx, if_pos (Int.natCast_nonneg _)]
          have := rk_ok (c := c) (s := s) (c2 := c2) (s2 := s2) (pc' := pc) hR hl (st' := (2, F a.toNat q.2.1) :: r) (gs_c.mpr ⟨fun _ h => k8 (hb 4 hty (by decide)) h, h2.2⟩)
          rw [List.map_cons, vm_nn hx] at this
          exact this
        · show RkO D σ K K2 F F2 c s c2 s2 (if 0 ≤ F a.toNat q.2.1 then _ else m_ko) _
          rw [if_neg hx]
          exact rk_ko
      | n + 5, hty => exact rk_ko
    · exact rk_ko
  · next x r =>
    split
    · split
      · exact rk_ok hR hl (st' := (4, x + 5) :: r) (gs_c.mpr ⟨gv_n (by decide), (gs_c.mp hs).2⟩)
      · exact rk_ok hR hl (st' := (0, 0) :: r) (gs_c.mpr ⟨gv_n (by decide), (gs_c.mp hs).2⟩)
    · exact rk_ko
  · exact rk_ko
theorem rk_putf (hR : HR D σ K K2 F F2) (hl : gl D ls) (hs : gs D st) : RkO D σ K K2 F F2 c s c2 s2 (m_putf q pc ls st (F, K, c, s)) (m_putf q pc (lm σ ls) (st.map (vm σ)) (F2, K2, c2, s2)) := by
  unfold m_putf
  split
  · next t x a r =>
    have h1 := gs_c.mp hs
    have h2 := gs_c.mp h1.2
    split
    · next hc =>
      have h0 : 0 ≤ a := Classical.byContradiction fun h => by have := hc.2.1; rw [kd_neg h] at this; exact absurd this (by show ¬ q.2.1 < 0; omega)
      obtain ⟨k, k1, k2, k3, k4, k5, k6⟩ := kd_at hR h2.1 h0
      rw [k1] at hc
      have h9 : m_fty q.1 q.2.1 ≠ 9 := fun e => by
        have h4 := hc.2.2
        rw [e] at h4
        cases h4
      have hb : isR k.1 q.2.1 = (m_fty q.1 q.2.1 == 4) := by
        unfold isR
        rw [hc.1, if_pos (m_fty_lt h9)]
      have hx : vm σ (t, x) = (t, xm σ (isR k.1 q.2.1) x) := by
        by_cases ht : t = 2
        · subst ht
          have h4 : m_fty q.1 q.2.1 = 4 := by
            have h4 := hc.2.2
            generalize m_fty q.1 q.2.1 = ty at h4
            match ty with
            | 0 => cases h4
            | 1 => cases h4
            | 2 => cases h4
            | 3 => cases h4
            | 4 => rfl
            | n + 5 => cases h4
          rw [hb, h4]
          show (if (2 : Nat) = 2 ∧ 0 ≤ x then _ else _) = (2, if (4 == 4) = true ∧ 0 ≤ x then _ else _)
          by_cases hx : 0 ≤ x
          · rw [if_pos ⟨rfl, hx⟩, if_pos ⟨rfl, hx⟩]
          · rw [if_neg (fun h => hx h.2), if_neg (fun h => hx h.2)]
        · have h4 : m_fty q.1 q.2.1 ≠ 4 := fun e => by
            have h4 := hc.2.2
            rw [e] at h4
            exact ht (eq_of_beq h4)
          rw [hb, show (m_fty q.1 q.2.1 == 4) = false from by simpa using h4, xm_f, vm_n ht]
      have e2 : (((t, x) :: (2, a) :: r : List MV).map (vm σ)) = (t, xm σ (isR k.1 q.2.1) x) :: (2, ((σ a.toNat : Nat) : Int)) :: r.map (vm σ) := by
        rw [List.map_cons, List.map_cons, hx, vm_nn h0]
      rw [e2]
      have hfit : m_fit (m_fty q.1 q.2.1) (t, xm σ (isR k.1 q.2.1) x) = true := by
        have h4 := hc.2.2
        by_cases e4 : m_fty q.1 q.2.1 = 4
        · rw [e4] at h4 ⊢
          exact h4
        · rw [hb, show (m_fty q.1 q.2.1 == 4) = false from by simpa using e4, xm_f]
          exact h4
      show RkO D σ K K2 F F2 c s c2 s2 _ (if (m_kind (F2, K2, c2, s2) ((σ a.toNat : Nat) : Int)).1 = q.1 ∧ q.2.1 < (m_kind (F2, K2, c2, s2) ((σ a.toNat : Nat) : Int)).2 ∧ m_fit (m_fty q.1 q.2.1) (t, xm σ (isR k.1 q.2.1) x) = true then .ok (pc, lm σ ls, r.map (vm σ), (m_up F2 ((σ a.toNat : Nat) : Int).toNat q.2.1 (xm σ (isR k.1 q.2.1) x), K2, c2, s2)) else m_ko)
      rw [k2, if_pos ⟨hc.1, hc.2.1, hfit⟩, Int.toNat_natCast]
      refine rk_up hR k5 k3 (fun e h => ?_) hl h2.2
      refine h1.1 ?_ h
      show t = 2
      rw [hb] at e
      have e4 : m_fty q.1 q.2.1 = 4 := eq_of_beq e
      have h4 := hc.2.2
      rw [e4] at h4
      exact eq_of_beq h4
    · exact rk_ko
  · exact rk_ko
theorem HR.cp (hR : HR D σ K K2 F F2) {a b sp dp n : Nat} {ka kb : Nat × Nat} (ha : D a) (hb : D b) (hka : K[a]? = some ka) (hkb : K[b]? = some kb) (h1 : 13 ≤ ka.1 ∧ ka.1 < 110) (h2 : 13 ≤ kb.1 ∧ kb.1 < 110) (h3 : sp + n ≤ ka.2) : HR D σ K K2 (m_cpy F a sp b dp n) (m_cpy F2 (σ a) sp (σ b) dp n) := by
  obtain ⟨g1, g2, g3, g4, g5, g6⟩ := hR
  have hl : b < 1000000 := Nat.lt_of_lt_of_le (List.getElem?_eq_some_iff.mp hkb).1 g5
  have hl2 : σ b < 1000000 := by
    obtain ⟨k0, e1, e2, -⟩ := g2 b hb
    exact Nat.lt_of_lt_of_le (List.getElem?_eq_some_iff.mp e2).1 g6
  refine ⟨g1, fun x hx => ?_, ?_, ?_, g5, g6⟩
  · obtain ⟨kx, e1, e2, e3⟩ := g2 x hx
    refine ⟨kx, e1, e2, fun j hj => ?_⟩
    by_cases e : x = b ∧ dp ≤ j ∧ j < dp + n
    · obtain ⟨rfl, e4, e5⟩ := e
      have : kx = kb := by rw [e1] at hkb; exact Option.some.inj hkb
      subst this
      obtain ⟨ky, f1, f2, f3⟩ := g2 a ha
      have : ky = ka := by rw [f1] at hka; exact Option.some.inj hka
      subst this
      unfold m_cpy
      rw [if_pos ⟨rfl, e4, e5⟩, if_pos ⟨rfl, e4, e5⟩, isR_n h2, xm_f]
      have := (f3 (sp + (j - dp)) (by omega)).1
      rw [isR_n h1, xm_f] at this
      exact ⟨this, fun h => by cases h⟩
    · have q1 : m_cpy F a sp b dp n x j = F x j := if_neg e
      have q2 : m_cpy F2 (σ a) sp (σ b) dp n (σ x) j = F2 (σ x) j := if_neg (fun w => e ⟨g1 _ _ hx hb w.1, w.2⟩)
      rw [q1, q2]
      exact e3 j hj
  · funext j
    show (if 1000000 = σ b ∧ _ then _ else F2 1000000 j) = (if 1000000 = b ∧ _ then _ else F 1000000 j)
    rw [if_neg (by omega), if_neg (by omega)]
    exact congrFun g3 j
  · funext j
    show (if 1000001 = σ b ∧ _ then _ else F2 1000001 j) = (if 1000001 = b ∧ _ then _ else F 1000001 j)
    rw [if_neg (by omega), if_neg (by omega)]
    exact congrFun g4 j
theorem rk_copy (hR : HR D σ K K2 F F2) (hl : gl D ls) (hs : gs D st) : RkO D σ K K2 F F2 c s c2 s2 (m_copy pc ls st (F, K, c, s)) (m_copy pc (lm σ ls) (st.map (vm σ)) (F2, K2, c2, s2)) := by
  unfold m_copy
  split
  · next n dp b sp a r =>
    have h1 := gs_c.mp (gs_c.mp (gs_c.mp hs).2).2
    have h2 := gs_c.mp (gs_c.mp h1.2).2
    split
    · next hc =>
      have h0 : 0 ≤ a := Classical.byContradiction fun h => by have := hc.1; rw [kd_neg h] at this; exact absurd this (by decide)
      have hb0 : 0 ≤ b := Classical.byContradiction fun h => by
        have h5 := hc.1
        have h6 := hc.2.1
        rw [kd_neg h] at h6
        have h6 : 999 = (m_kind (F, K, c, s) a).1 := h6
        omega
      obtain ⟨k, k1, k2, k3, k4, k5, k6⟩ := kd_at hR h2.1 h0
      obtain ⟨j, j1, j2, j3, j4, j5, j6⟩ := kd_at hR h1.1 hb0
      rw [k1, j1] at hc
      have e2 : (((0, n) :: (0, dp) :: (2, b) :: (0, sp) :: (2, a) :: r : List MV).map (vm σ)) = (0, n) :: (0, dp) :: (2, ((σ b.toNat : Nat) : Int)) :: (0, sp) :: (2, ((σ a.toNat : Nat) : Int)) :: r.map (vm σ) := by
        rw [List.map_cons, List.map_cons, List.map_cons, List.map_cons, List.map_cons, vm_n (by decide), vm_n (by decide), vm_nn hb0, vm_n (by decide), vm_nn h0]
      rw [e2]
      show RkO D σ K K2 F F2 c s c2 s2 (.ok (pc, ls, r, (m_cpy F a.toNat sp.toNat b.toNat dp.toNat n.toNat, K, c, s))) (if ((m_kind (F2, K2, c2, s2) ((σ a.toNat : Nat) : Int)).1 = 100 ∨ (m_kind (F2, K2, c2, s2) ((σ a.toNat : Nat) : Int)).1 = 102) ∧ (m_kind (F2, K2, c2, s2) ((σ b.toNat : Nat) : Int)).1 = (m_kind (F2, K2, c2, s2) ((σ a.toNat : Nat) : Int)).1 ∧ 0 ≤ n ∧ 0 ≤ dp ∧ 0 ≤ sp ∧ sp + n ≤ (m_kind (F2, K2, c2, s2) ((σ a.toNat : Nat) : Int)).2 ∧ dp + n ≤ (m_kind (F2, K2, c2, s2) ((σ b.toNat : Nat) : Int)).2 ∧ m_cats (r.map (vm σ)) ≤ 8 then .ok (pc, lm σ ls, r.map (vm σ), (m_cpy F2 ((σ a.toNat : Nat) : Int).toNat sp.toNat ((σ b.toNat : Nat) : Int).toNat dp.toNat n.toNat, K2, c2, s2)) else m_ko)
      rw [k2, j2, vm_cats, if_pos hc, Int.toNat_natCast, Int.toNat_natCast]
      refine ⟨fun _ _ _ _ _ _ _ h _ => ?_, fun t N xs y h => by cases h⟩
      cases h
      refine ⟨rfl, rfl, rfl, _, rfl, hR.cp k5 j5 k3 j3 (by omega) (by omega) (by omega), hl, h2.2, fun x hx => ?_⟩
      funext i
      exact if_neg (fun e => hx _ j5 e.1.symm)
    · exact rk_ko
  · exact rk_ko
theorem rk_call (hs : gs D st) {M n : Nat} : RkO D σ K K2 F F2 c s c2 s2 (m_call M n st) (m_call M n (st.map (vm σ))) := by
  unfold m_call
  rw [List.length_map, ← List.map_drop, ← List.map_take, vm_cats, vm_cats]
  split
  · rw [← List.map_reverse]
    exact rk_er (fun v hv => hs v (List.mem_of_mem_take (List.mem_reverse.mp hv))) (fun v hv => hs v (List.mem_of_mem_drop hv))
  · exact rk_ko
theorem rk_recv (hR : HR D σ K K2 F F2) (hs : gs D st) {ci n : Nat} (hci : ci ≤ 200) (h : m_recv (F, K, c, s) ci n st = true) : m_recv (F2, K2, c2, s2) ci n (st.map (vm σ)) = true := by
  unfold m_recv at h ⊢
  rw [← List.map_drop]
  split at h
  · next a r hd =>
    rw [hd]
    have hg : gv D (2, a) := hs _ (List.mem_of_mem_drop (by rw [hd]; exact List.mem_cons_self))
    have h0 : 0 ≤ a := Classical.byContradiction fun h0 => by
      rw [kd_neg h0] at h
      have h : 999 = ci := eq_of_beq h
      omega
    obtain ⟨k, k1, k2, -⟩ := kd_at hR hg h0
    rw [k1] at h
    rw [List.map_cons, vm_nn h0]
    show ((m_kind (F2, K2, c2, s2) ((σ a.toNat : Nat) : Int)).1 == ci) = true
    rw [k2]
    exact h
  · next x r hd =>
    rw [hd]
    exact h
  · cases h
set_option maxHeartbeats 4000000 in
theorem rk_step (hR : HR D σ K K2 F F2) (hl : gl D ls) (hs : gs D st) (i : Instr) : RkO D σ K K2 F F2 c s c2 s2 (mstep i q pc ls st (F, K, c, s)) (mstep i q pc (lm σ ls) (st.map (vm σ)) (F2, K2, c2, s2)) := by
  have n0 : ∀ x : Int, ∀ {r : List MV}, gs D r → gs D ((0, x) :: r) := fun x r h => gs_c.mpr ⟨gv_n (by decide), h⟩
  have n1 : ∀ x : Int, ∀ {r : List MV}, gs D r → gs D ((1, x) :: r) := fun x r h => gs_c.mpr ⟨gv_n (by decide), h⟩
  have t1 : ∀ {v : MV} {r : List MV}, gs D (v :: r) → gs D r := fun h => (gs_c.mp h).2
  cases i with
  | iconst v => exact rk_ok hR hl (st' := (0, v) :: st) (n0 _ hs)
  | bipush v => exact rk_ok hR hl (st' := (0, v) :: st) (n0 _ hs)
  | sipush v => exact rk_ok hR hl (st' := (0, v) :: st) (n0 _ hs)
  | lconst d => exact rk_ok hR hl (st' := (1, ((d : Nat) : Int)) :: st) (n1 _ hs)
  | ldc z =>
    unfold mstep; dsimp only
    split
    · exact rk_ok hR hl (st' := (0, -(q.2.1 : Int)) :: st) (n0 _ hs)
    split
    · exact rk_ok hR hl (st' := (0, (q.2.1 : Int)) :: st) (n0 _ hs)
    · split
      · exact rk_ok hR hl (st' := (5, (q.2.1 : Int)) :: st) (gs_c.mpr ⟨gv_n (by decide), hs⟩)
      · exact rk_ko
  | ldc_w z =>
    unfold mstep; dsimp only
    split
    · exact rk_ok hR hl (st' := (0, -(q.2.1 : Int)) :: st) (n0 _ hs)
    split
    · exact rk_ok hR hl (st' := (0, (q.2.1 : Int)) :: st) (n0 _ hs)
    · split
      · exact rk_ok hR hl (st' := (5, (q.2.1 : Int)) :: st) (gs_c.mpr ⟨gv_n (by decide), hs⟩)
      · exact rk_ko
  | ldc2_w z =>
    unfold mstep; dsimp only
    split
    · exact rk_ok hR hl (st' := (1, -(q.2.1 : Int)) :: st) (n1 _ hs)
    split
    · exact rk_ok hR hl (st' := (1, (q.2.1 : Int)) :: st) (n1 _ hs)
    · exact rk_ko
  | iload n => exact rk_ldi hR hl hs
  | iload_n n => exact rk_ldi hR hl hs
  | lload n => exact rk_ldl hR hl hs
  | lload_n n => exact rk_ldl hR hl hs
  | aload n => exact rk_lda hR hl hs
  | aload_n n => exact rk_lda hR hl hs
  | istore n => exact rk_stv hR hl hs
  | istore_n n => exact rk_stv hR hl hs
  | lstore n => exact rk_stv hR hl hs
  | lstore_n n => exact rk_stv hR hl hs
  | astore n => exact rk_stv hR hl hs
  | astore_n n => exact rk_stv hR hl hs
  | iinc n v =>
    unfold mstep; dsimp only
    split
    · next x hx =>
      have e : (lm σ ls)[n]? = some (some (0, x)) := lm_some hx
      rw [e]
      exact rk_put hR hl hs (v := (0, w32 (x + v))) (gv_n (by decide))
    · exact rk_ko
  | iadd => exact rk_i2 hR hl hs
  | isub => exact rk_i2 hR hl hs
  | imul => exact rk_i2 hR hl hs
  | iand => exact rk_i2 hR hl hs
  | ior => exact rk_i2 hR hl hs
  | ladd => exact rk_l2 hR hl hs
  | lsub => exact rk_l2 hR hl hs
  | lmul => exact rk_l2 hR hl hs
  | land => exact rk_l2 hR hl hs
  | lor => exact rk_l2 hR hl hs
  | lxor => exact rk_l2 hR hl hs
  | lshl =>
    unfold mstep; dsimp only
    split
    · next y x r =>
      by_cases h : 0 ≤ y ∧ y < 64
      · show RkO D σ K K2 F F2 c s c2 s2 _ (if 0 ≤ y ∧ y < 64 then _ else _)
        rw [if_pos h, if_pos h]
        exact rk_ok hR hl (st' := (1, m_lshl x y) :: r) (n1 _ (t1 (t1 hs)))
      · rw [if_neg h]; exact rk_ko
    · exact rk_ko
  | lshr =>
    unfold mstep; dsimp only
    split
    · next y x r =>
      by_cases h : 0 ≤ y ∧ y < 64
      · show RkO D σ K K2 F F2 c s c2 s2 _ (if 0 ≤ y ∧ y < 64 then _ else _)
        rw [if_pos h, if_pos h]
        exact rk_ok hR hl (st' := (1, m_shr x y) :: r) (n1 _ (t1 (t1 hs)))
      · rw [if_neg h]; exact rk_ko
    · exact rk_ko
  | l2i =>
    unfold mstep; dsimp only
    split
    · next x r => exact rk_ok hR hl (st' := (0, w32 x) :: r) (n0 _ (t1 hs))
    · exact rk_ko
  | idiv =>
    unfold mstep; dsimp only
    split
    · next y x r =>
      by_cases h : y = 0
      · rw [if_pos h]; exact rk_ko
      · show RkO D σ K K2 F F2 c s c2 s2 _ (if y = 0 then _ else _)
        rw [if_neg h, if_neg h]
        exact rk_ok hR hl (st' := (0, w32 (x.tdiv y)) :: r) (n0 _ (t1 (t1 hs)))
    · exact rk_ko
  | irem =>
    unfold mstep; dsimp only
    split
    · next y x r =>
      by_cases h : y = 0
      · rw [if_pos h]; exact rk_ko
      · show RkO D σ K K2 F F2 c s c2 s2 _ (if y = 0 then _ else _)
        rw [if_neg h, if_neg h]
        exact rk_ok hR hl (st' := (0, x.tmod y) :: r) (n0 _ (t1 (t1 hs)))
    · exact rk_ko
  | ishl =>
    unfold mstep; dsimp only
    split
    · next y x r =>
      by_cases h : 0 ≤ y ∧ y < 32
      · show RkO D σ K K2 F F2 c s c2 s2 _ (if 0 ≤ y ∧ y < 32 then _ else _)
        rw [if_pos h, if_pos h]
        exact rk_ok hR hl (st' := (0, m_shl x y) :: r) (n0 _ (t1 (t1 hs)))
      · rw [if_neg h]; exact rk_ko
    · exact rk_ko
  | ishr =>
    unfold mstep; dsimp only
    split
    · next y x r =>
      by_cases h : 0 ≤ y ∧ y < 32
      · show RkO D σ K K2 F F2 c s c2 s2 _ (if 0 ≤ y ∧ y < 32 then _ else _)
        rw [if_pos h, if_pos h]
        exact rk_ok hR hl (st' := (0, m_shr x y) :: r) (n0 _ (t1 (t1 hs)))
      · rw [if_neg h]; exact rk_ko
    · exact rk_ko
  | iushr =>
    unfold mstep; dsimp only
    split
    · next y x r =>
      by_cases h : 0 ≤ y ∧ y < 32
      · show RkO D σ K K2 F F2 c s c2 s2 _ (if 0 ≤ y ∧ y < 32 then _ else _)
        rw [if_pos h, if_pos h]
        exact rk_ok hR hl (st' := (0, m_ushr x y) :: r) (n0 _ (t1 (t1 hs)))
      · rw [if_neg h]; exact rk_ko
    · exact rk_ko
  | lcmp =>
    unfold mstep; dsimp only
    split
    · next y x r => exact rk_ok hR hl (st' := (0, if x < y then -1 else if x = y then 0 else 1) :: r) (n0 _ (t1 (t1 hs)))
    · exact rk_ko
  | i2l =>
    unfold mstep; dsimp only
    split
    · next x r => exact rk_ok hR hl (st' := (1, x) :: r) (n1 _ (t1 hs))
    · exact rk_ko
  | i2c =>
    unfold mstep; dsimp only
    split
    · next x r => exact rk_ok hR hl (st' := (0, x % 65536) :: r) (n0 _ (t1 hs))
    · exact rk_ko
  | i2b =>
    unfold mstep; dsimp only
    split
    · next x r => exact rk_ok hR hl (st' := (0, (x + 128) % 256 - 128) :: r) (n0 _ (t1 hs))
    · exact rk_ko
  | dup =>
    unfold mstep; dsimp only
    cases st with
    | nil => exact rk_ko
    | cons v r =>
      show RkO D σ K K2 F F2 c s c2 s2 (if v.1 = 1 then m_ko else _) (if (vm σ v).1 = 1 then m_ko else .ok (pc + 1, lm σ ls, vm σ v :: vm σ v :: r.map (vm σ), (F2, K2, c2, s2)))
      rw [vm_t]
      split
      · exact rk_ko
      · exact rk_ok hR hl (st' := v :: v :: r) (gs_c.mpr ⟨(gs_c.mp hs).1, hs⟩)
  | dup2 =>
    unfold mstep; dsimp only
    match st with
    | [] => exact rk_ko
    | [v] => exact rk_ko
    | v :: w :: r =>
      show RkO D σ K K2 F F2 c s c2 s2 (if v.1 = 1 ∨ w.1 = 1 then m_ko else _) (if (vm σ v).1 = 1 ∨ (vm σ w).1 = 1 then m_ko else .ok (pc + 1, lm σ ls, vm σ v :: vm σ w :: vm σ v :: vm σ w :: r.map (vm σ), (F2, K2, c2, s2)))
      rw [vm_t, vm_t]
      split
      · exact rk_ko
      · have h1 := gs_c.mp hs
        exact rk_ok hR hl (st' := v :: w :: v :: w :: r) (gs_c.mpr ⟨h1.1, gs_c.mpr ⟨(gs_c.mp h1.2).1, hs⟩⟩)
  | pop =>
    unfold mstep; dsimp only
    cases st with
    | nil => exact rk_ko
    | cons v r =>
      show RkO D σ K K2 F F2 c s c2 s2 (if v.1 = 1 then m_ko else _) (if (vm σ v).1 = 1 then m_ko else .ok (pc + 1, lm σ ls, r.map (vm σ), (F2, K2, c2, s2)))
      rw [vm_t]
      split
      · exact rk_ko
      · exact rk_ok hR hl (t1 hs)
  | pop2 =>
    unfold mstep; dsimp only
    cases st with
    | nil => exact rk_ko
    | cons v r =>
      show RkO D σ K K2 F F2 c s c2 s2 (if v.1 = 1 then _ else m_ko) (if (vm σ v).1 = 1 then .ok (pc + 1, lm σ ls, r.map (vm σ), (F2, K2, c2, s2)) else m_ko)
      rw [vm_t]
      split
      · exact rk_ok hR hl (t1 hs)
      · exact rk_ko
  | ifCond cc off =>
    unfold mstep; dsimp only
    split
    · next x r =>
      have g := rk_go (c := c) (s := s) (c2 := c2) (s2 := s2) (pc := pc) (off := off) hR hl (t1 hs)
      have k := rk_ok (c := c) (s := s) (c2 := c2) (s2 := s2) (pc' := pc + 3) hR hl (t1 hs)
      have key : ∀ (p : Prop) [Decidable p] (a b a2 b2 : Except ME MS), RkO D σ K K2 F F2 c s c2 s2 a a2 → RkO D σ K K2 F F2 c s c2 s2 b b2 → RkO D σ K K2 F F2 c s c2 s2 (if p then a else b) (if p then a2 else b2) := fun p _ a b a2 b2 h1 h2 => by
        split
        · exact h1
        · exact h2
      cases cc with
      | eq => exact key (x = 0) _ _ _ _ g k
      | ne => exact key (x = 0) _ _ _ _ k g
      | lt => exact key (x < 0) _ _ _ _ g k
      | ge => exact key (x < 0) _ _ _ _ k g
      | gt => exact key (0 < x) _ _ _ _ g k
      | le => exact key (0 < x) _ _ _ _ k g
    · exact rk_ko
  | if_icmp cc off =>
    unfold mstep; dsimp only
    split
    · next y x r =>
      have g := rk_go (c := c) (s := s) (c2 := c2) (s2 := s2) (pc := pc) (off := off) hR hl (t1 (t1 hs))
      have k := rk_ok (c := c) (s := s) (c2 := c2) (s2 := s2) (pc' := pc + 3) hR hl (t1 (t1 hs))
      have key : ∀ (p : Prop) [Decidable p] (a b a2 b2 : Except ME MS), RkO D σ K K2 F F2 c s c2 s2 a a2 → RkO D σ K K2 F F2 c s c2 s2 b b2 → RkO D σ K K2 F F2 c s c2 s2 (if p then a else b) (if p then a2 else b2) := fun p _ a b a2 b2 h1 h2 => by
        split
        · exact h1
        · exact h2
      cases cc with
      | eq => exact key (x = y) _ _ _ _ g k
      | ne => exact key (x = y) _ _ _ _ k g
      | lt => exact key (x < y) _ _ _ _ g k
      | ge => exact key (x < y) _ _ _ _ k g
      | gt => exact key (y < x) _ _ _ _ g k
      | le => exact key (y < x) _ _ _ _ k g
    · exact rk_ko
  | goto off => exact rk_go hR hl hs
  | tableswitch d lo hi offs =>
    unfold mstep; dsimp only
    split
    · next x r =>
      by_cases h : x < lo ∨ hi < x
      · show RkO D σ K K2 F F2 c s c2 s2 _ (if x < lo ∨ hi < x then _ else _)
        rw [if_pos h, if_pos h]
        exact rk_go hR hl (t1 hs)
      · show RkO D σ K K2 F F2 c s c2 s2 _ (if x < lo ∨ hi < x then _ else _)
        rw [if_neg h, if_neg h]
        split
        · exact rk_go hR hl (t1 hs)
        · exact rk_ko
    · exact rk_ko
  | getfield z => exact rk_get hR hl hs
  | putfield z => exact rk_putf hR hl hs
  | getstatic z =>
    unfold mstep; dsimp only
    split
    · exact rk_ok hR hl (st' := (4, (q.2.1 : Int)) :: st) (gs_c.mpr ⟨gv_n (by decide), hs⟩)
    · split
      · exact rk_ok hR hl (st' := (0, 1) :: st) (n0 _ hs)
      · split
        · exact rk_ok hR hl (st' := (3, 0) :: st) (gs_c.mpr ⟨gv_n (by decide), hs⟩)
        · exact rk_ko
  | iaload => exact rk_ld (rk_atc hR hl hs) (rk_ascr hR hl hs) (rk_ald hR hl hs (by decide) (by decide))
  | laload => exact rk_ald hR hl hs (by decide) (by decide)
  | caload => exact rk_ld4 (rk_atc hR hl hs) (rk_ald hR hl hs (by decide) (by decide))
  | baload => exact rk_ld4 (rk_atc hR hl hs) (rk_ald hR hl hs (by decide) (by decide))
  | aaload => exact rk_aald hR hl hs
  | iastore => exact rk_ast hR hl hs (by decide) (by decide)
  | lastore => exact rk_ast hR hl hs (by decide) (by decide)
  | castore => exact rk_ast hR hl hs (by decide) (by decide)
  | bastore => exact rk_ast hR hl hs (by decide) (by decide)
  | aastore => exact rk_aast (q := q) hR hl hs
  | arraylength => exact rk_alen hR hl hs
  | newarray t =>
    have key : ∀ (kd : Nat) (d : Int) (pc : Nat) (r2 : Except ME MS), RkO D σ K K2 F F2 c s c2 s2 (m_mkarr kd d pc ls st (F, K, c, s)) r2 := fun kd d pc r2 => by
      unfold m_mkarr
      split
      · split
        · exact rk_al
        · exact rk_ko
      · exact rk_ko
    cases t <;> first | exact key _ _ _ _ | exact rk_ko
  | anewarray z =>
    have key : ∀ (kd : Nat) (d : Int) (pc : Nat) (r2 : Except ME MS), RkO D σ K K2 F F2 c s c2 s2 (m_mkarr kd d pc ls st (F, K, c, s)) r2 := fun kd d pc r2 => by
      unfold m_mkarr
      split
      · split
        · exact rk_al
        · exact rk_ko
      · exact rk_ko
    unfold mstep; dsimp only
    split
    · exact key _ _ _ _
    · exact rk_ko
  | new z =>
    unfold mstep; dsimp only
    split
    · exact rk_alo
    · rw [vm_cats]
      split
      · exact rk_er gs_nil hs
      · exact rk_ko
  | invokespecial z =>
    unfold mstep; dsimp only
    split
    · split
      · next x r =>
        by_cases h0 : 0 ≤ x
        · rw [List.map_cons, vm_nn h0]
          show RkO D σ K K2 F F2 c s c2 s2 (if m_cats r ≤ 8 then _ else m_ko) (if m_cats (r.map (vm σ)) ≤ 8 then .ok (pc + 3, lm σ ls, r.map (vm σ), (F2, K2, c2, s2)) else m_ko)
          rw [vm_cats]
          split
          · exact rk_ok hR hl (t1 hs)
          · exact rk_ko
        · rw [List.map_cons, show vm σ (2, x) = (2, x) from if_neg (fun h => h0 h.2)]
          show RkO D σ K K2 F F2 c s c2 s2 (if m_cats r ≤ 8 then _ else m_ko) (if m_cats (r.map (vm σ)) ≤ 8 then .ok (pc + 3, lm σ ls, r.map (vm σ), (F2, K2, c2, s2)) else m_ko)
          rw [vm_cats]
          split
          · exact rk_ok hR hl (t1 hs)
          · exact rk_ko
      · exact rk_ko
    · split
      · split
        · next h => rw [if_pos (rk_recv hR hs (m_own_lt _) h)]; exact rk_call hs
        · exact rk_ko
      · exact rk_ko
  | invokevirtual z =>
    unfold mstep; dsimp only
    split
    · split
      · next h => rw [if_pos (rk_recv hR hs (m_own_lt _) h)]; exact rk_call hs
      · exact rk_ko
    · exact rk_ko
  | invokestatic z =>
    unfold mstep; dsimp only
    split
    · exact rk_copy hR hl hs
    · split
      · exact rk_call hs
      · exact rk_ko
  | ireturn =>
    unfold mstep m_iret; dsimp only
    split
    · next x =>
      show RkO D σ K K2 F F2 c s c2 s2 _ (if m_fit q.1 (0, x) = true ∨ (q.1 = 5 ∧ x = 0) then _ else _)
      split
      · exact rk_er (xs := [(0, x)]) (n0 _ gs_nil) gs_nil
      · exact rk_ko
    · exact rk_ko
  | lreturn =>
    unfold mstep; dsimp only
    split
    · next x => exact rk_er (xs := [(1, x)]) (n1 _ gs_nil) gs_nil
    · exact rk_ko
  | areturn =>
    unfold mstep; dsimp only
    split
    · next x =>
      have e : ∀ w : Int, vm σ (2, x) = (2, w) → RkO D σ K K2 F F2 c s c2 s2 (.error (2, 0, [(2, x)], [])) (match (([(2, x)] : List MV).map (vm σ)) with | [(2, x)] => .error (2, 0, [(2, x)], []) | [(5, x)] => .error (2, 0, [(5, x)], []) | _ => m_ko) := fun w hw => by
        have := rk_er (D := D) (σ := σ) (K := K) (K2 := K2) (F := F) (F2 := F2) (c := c) (s := s) (c2 := c2) (s2 := s2) (t := 2) (N := 0) (xs := [(2, x)]) (y := []) hs gs_nil
        rw [List.map_cons, hw] at this ⊢
        exact this
      by_cases h0 : 0 ≤ x
      · exact e _ (vm_nn h0)
      · exact e _ (if_neg (fun h => h0 h.2))
    · next x => exact rk_er (xs := [(5, x)]) hs gs_nil
    · exact rk_ko
  | return_ =>
    unfold mstep; dsimp only
    cases st with
    | nil => exact rk_er (xs := []) gs_nil gs_nil
    | cons v r => exact rk_ko
  | _ => exact rk_ko
end Ms1
