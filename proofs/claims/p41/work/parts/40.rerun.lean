/-! A WHOLE RUN WHERE THE CELLS LIE ELSEWHERE -/
section Ms2
variable {D : Nat → Prop} {σ : Nat → Nat} {K K2 : MK}
theorem lm_app (a b : ML) : lm σ (a ++ b) = lm σ a ++ lm σ b := List.map_append
theorem lm_flat (xs : List MV) : lm σ (xs.flatMap fun v => if v.1 = 1 then [some v, none] else [some v]) = (xs.map (vm σ)).flatMap fun v => if v.1 = 1 then [some v, none] else [some v] := by
  induction xs with
  | nil => rfl
  | cons v t ih =>
    rw [List.flatMap_cons, List.map_cons, List.flatMap_cons, lm_app, ih, vm_t]
    congr 1
    split <;> rfl
theorem lm_ini (n : Nat) (xs : List MV) : lm σ (m_ini n xs) = m_ini n (xs.map (vm σ)) := by
  unfold m_ini
  have e := lm_flat (σ := σ) xs
  have e2 : (xs.flatMap fun v => if v.1 = 1 then [some v, none] else [some v]).length = ((xs.map (vm σ)).flatMap fun v => if v.1 = 1 then [some v, none] else [some v]).length := by
    rw [← e]
    exact (lm_len (σ := σ)).symm
  rw [lm_app, e, e2]
  congr 1
  unfold lm
  rw [List.map_replicate]
  rfl
theorem gl_ini {n : Nat} {xs : List MV} (h : gs D xs) : gl D (m_ini n xs) := by
  intro v hv
  unfold m_ini at hv
  rcases List.mem_append.mp hv with h1 | h1
  · obtain ⟨w, hw, h2⟩ := List.mem_flatMap.mp h1
    split at h2
    · rcases List.mem_cons.mp h2 with e | e
      · cases e; exact h _ hw
      · rcases List.mem_cons.mp e with e | e
        · cases e
        · cases e
    · rcases List.mem_cons.mp h2 with e | e
      · cases e; exact h _ hw
      · cases e
  · have := List.eq_of_mem_replicate h1
    cases this
theorem gs_app {a b : List MV} (h1 : gs D a) (h2 : gs D b) : gs D (a ++ b) := fun v hv => (List.mem_append.mp hv).elim (h1 v) (h2 v)
set_option maxHeartbeats 4000000 in
theorem rl_mx : ∀ (f d M pc : Nat) (ls : ML) (st : List MV) (F : MF) (c s : Nat) (o : Nat × List MV) (F1 : MF) (K1 : MK) (c1 s1 : Nat), mx f d M pc ls st (F, K, c, s) = some (o, (F1, K1, c1, s1)) → K1.length = K.length →
    ∀ (F2 : MF) (c2 s2 : Nat), HR D σ K K2 F F2 → gl D ls → gs D st → K1 = K ∧ c ≤ c1 ∧ s ≤ s1 ∧
      ∃ F3, mx f d M pc (lm σ ls) (st.map (vm σ)) (F2, K2, c2, s2) = some ((o.1, o.2.map (vm σ)), (F3, K2, c2 + (c1 - c), s2 + (s1 - s))) ∧ HR D σ K K2 F1 F3 ∧ gs D o.2 ∧ (∀ b, (∀ a, D a → σ a ≠ b) → F3 b = F2 b) := by
  intro f
  induction f with
  | zero => intro d M pc ls st F c s o F1 K1 c1 s1 hm; cases hm
  | succ f ih =>
    intro d M pc ls st F c s o F1 K1 c1 s1 hm hlen F2 c2 s2 hR hl hs
    have hfr := m_fr_mx _ _ _ _ _ _ _ _ _ hm
    cases ht : (m_tb M)[pc]? with
    | none => simp only [mx, ht] at hm; cases hm
    | some oi =>
      cases oi with
      | none => simp only [mx, ht] at hm; cases hm
      | some iq =>
        obtain ⟨i, q⟩ := iq
        obtain ⟨hok, her⟩ := rk_step (q := q) (pc := pc) (c := c) (s := s) (c2 := c2) (s2 := s2) hR hl hs i
        cases hst : mstep i q pc ls st (F, K, c, s) with
        | ok r =>
          obtain ⟨pc', ls', st', F', K', c', s'⟩ := r
          simp only [mx, ht, hst] at hm
          have a1 := m_fr_step hst
          have a2 := m_fr_mx _ _ _ _ _ _ _ _ _ hm
          have a3 : K.length ≤ K'.length := a1.1
          have a4 : K'.length ≤ K1.length := a2.1
          obtain ⟨e1, e2, e3, F2', b1, b2, b3, b4, b5⟩ := hok _ _ _ _ _ _ _ hst (by omega)
          subst e1 e2 e3
          obtain ⟨k1, k2, k3, F3, k4, k5, k6, k7⟩ := ih _ _ _ _ _ _ _ _ _ _ _ _ _ hm hlen F2' c2 s2 b2 b3 b4
          refine ⟨k1, k2, k3, F3, ?_, k5, k6, fun b hb => (k7 b hb).trans (b5 b hb)⟩
          simp only [mx, ht, b1]
          exact k4
        | error r =>
          obtain ⟨t, N, xs, y⟩ := r
          by_cases t0 : t = 0
          · subst t0; simp only [mx, ht, hst] at hm; cases hm
          obtain ⟨b1, b2, b3⟩ := her _ _ _ _ hst t0
          match t, t0 with
          | 1, _ =>
            simp only [mx, ht, hst] at hm
            cases d with
            | zero => cases hm
            | succ d =>
              dsimp only at hm
              cases hc : mx f d N 0 (m_ini (m_mls.getD N 0) xs) [] (F, K, c, s) with
              | none => rw [hc] at hm; cases hm
              | some w =>
                obtain ⟨⟨e, vs⟩, F', K', c', s'⟩ := w
                rw [hc] at hm
                have a1 := m_fr_mx _ _ _ _ _ _ _ _ _ hc
                have a3 : K.length ≤ K'.length := a1.1
                have a5 : K'.length ≤ K1.length := by
                  cases e with
                  | zero => exact (m_fr_mx _ _ _ _ _ _ _ _ _ hm).1
                  | succ e =>
                    dsimp only at hm
                    split at hm
                    · cases hm
                    · split at hm
                      · exact (m_fr_mx _ _ _ _ _ _ _ _ _ hm).1
                      · cases hm; exact Nat.le_refl _
                obtain ⟨k1, k2, k3, F3, k4, k5, k6, k7⟩ := ih _ _ _ _ _ _ _ _ _ _ _ _ _ hc (by omega) F2 c2 s2 hR (gl_ini b2) gs_nil
                subst k1
                rw [lm_ini] at k4
                cases e with
                | zero =>
                  dsimp only at hm
                  obtain ⟨j1, j2, j3, F4, j4, j5, j6, j7⟩ := ih _ _ _ _ _ _ _ _ _ _ _ _ _ hm hlen F3 (c2 + (c' - c)) (s2 + (s' - s)) k5 hl (gs_app k6 b3)
                  refine ⟨j1, by omega, by omega, F4, ?_, j5, j6, fun b hb => (j7 b hb).trans (k7 b hb)⟩
                  simp only [mx, ht, b1]
                  rw [show ([] : List MV).map (vm σ) = [] from rfl] at k4
                  rw [k4]
                  rw [List.map_append] at j4
                  rw [show c2 + (c1 - c) = c2 + (c' - c) + (c1 - c') by omega, show s2 + (s1 - s) = s2 + (s' - s) + (s1 - s') by omega]
                  exact j4
                | succ e =>
                  dsimp only at hm
                  split at hm
                  · cases hm
                  · next hN =>
                    split at hm
                    · next hp hhp =>
                      obtain ⟨j1, j2, j3, F4, j4, j5, j6, j7⟩ := ih _ _ _ _ _ _ _ _ _ _ _ _ _ hm hlen F3 (c2 + (c' - c)) (s2 + (s' - s)) k5 hl (gs_c.mpr ⟨gv_n (by decide), gs_nil⟩)
                      refine ⟨j1, by omega, by omega, F4, ?_, j5, j6, fun b hb => (j7 b hb).trans (k7 b hb)⟩
                      simp only [mx, ht, b1]
                      rw [show ([] : List MV).map (vm σ) = [] from rfl] at k4
                      rw [k4]
                      rw [show c2 + (c1 - c) = c2 + (c' - c) + (c1 - c') by omega, show s2 + (s1 - s) = s2 + (s' - s) + (s1 - s') by omega]
                      dsimp only
                      rw [if_neg hN, hhp]
                      exact j4
                    · next hhp =>
                      cases hm
                      refine ⟨rfl, k2, k3, F3, ?_, k5, gs_nil, k7⟩
                      simp only [mx, ht, b1]
                      rw [show ([] : List MV).map (vm σ) = [] from rfl] at k4
                      rw [k4]
                      dsimp only
                      rw [if_neg hN, hhp]
                      rfl
          | 2, _ =>
            simp only [mx, ht, hst] at hm
            cases hm
            refine ⟨rfl, Nat.le_refl _, Nat.le_refl _, F2, ?_, hR, b2, fun _ _ => rfl⟩
            simp only [mx, ht, b1]
            rw [Nat.sub_self, Nat.sub_self]
            rfl
          | 3, _ =>
            simp only [mx, ht, hst] at hm
            cases hm
            refine ⟨rfl, Nat.le_succ _, Nat.le_add_right _ _, F2, ?_, hR, gs_nil, fun _ _ => rfl⟩
            simp only [mx, ht, b1]
            show some ((N + 1, []), m_thr (F2, K2, c2, s2)) = some ((N + 1, []), (F2, K2, c2 + (c + 1 - c), s2 + (s + 6 - s)))
            rw [show c + 1 - c = 1 by omega, show s + 6 - s = 6 by omega]
            rfl
          | n + 4, _ =>
            simp only [mx, ht, hst] at hm
            cases hm
end Ms2
