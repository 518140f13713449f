/-! RUNS IN ANY WORLD: what is shown of the cells as they are counted holds wherever they lie, and while more are made -/
section Ms3
variable {D : Nat → Prop} {M pc N nc ns : Nat} {ls : ML} {st : List MV} {F : MF} {Q R : Nat × List MV → MF → Prop} {i : Instr} {q : LK}
def Wv (D : Nat → Prop) (nc ns M pc : Nat) (ls : ML) (st : List MV) (F : MF) (Q : Nat × List MV → MF → Prop) : Prop :=
  ∀ d, m_hg M ≤ d → ∀ (σ : Nat → Nat) (K2 : MK) (F2 : MF) (c2 s2 : Nat), HR D σ m_KD K2 F F2 → gl D ls → gs D st → K2.length + nc ≤ 1000000 →
    ∃ (f : Nat) (o : Nat × List MV) (F' : MF) (X : MK) (F2' : MF) (c' s' : Nat), mx f d M pc (lm σ ls) (st.map (vm σ)) (F2, K2, c2, s2) = some ((o.1, o.2.map (vm σ)), (F2', K2 ++ X, c', s')) ∧
      Q o F' ∧ gs D o.2 ∧ HR D σ m_KD (K2 ++ X) F' F2' ∧ X.length ≤ nc ∧ c' ≤ c2 + nc ∧ s' ≤ s2 + ns ∧ (∀ b, b < K2.length → (∀ a, D a → σ a ≠ b) → F2' b = F2 b)
theorem Wv.mono (h : Wv D nc ns M pc ls st F Q) (hQ : ∀ o F', Q o F' → R o F') : Wv D nc ns M pc ls st F R := by
  intro d hd σ K2 F2 c2 s2 hR hl hs hn
  obtain ⟨f, o, F', X, F2', c', s', h1, h2, h3⟩ := h d hd σ K2 F2 c2 s2 hR hl hs hn
  exact ⟨f, o, F', X, F2', c', s', h1, hQ o F' h2, h3⟩
theorem Wv.lw {l : ML} (h : Wv D nc ns M pc l st F Q) (hl0 : Lw l ls) : Wv D nc ns M pc ls st F Q := by
  intro d hd σ K2 F2 c2 s2 hR hl hs hn
  have e1 : gl D l := fun v hv => by
    obtain ⟨k, hk⟩ := List.getElem?_of_mem hv
    exact gl_at hl (hl0.2 k v hk)
  have e2 : Lw (lm σ l) (lm σ ls) := ⟨by rw [lm_len, lm_len]; exact hl0.1, fun k v hk => by
    rw [lm_get] at hk
    cases hg : l[k]? with
    | none => rw [hg] at hk; cases hk
    | some o =>
      cases o with
      | none => rw [hg] at hk; cases hk
      | some w =>
        rw [hg] at hk
        have := lm_some (σ := σ) (t := w.1) (x := w.2) (hl0.2 k w hg)
        rw [this]
        exact hk⟩
  obtain ⟨f, o, F', X, F2', c', s', h1, h3⟩ := h d hd σ K2 F2 c2 s2 hR e1 hs hn
  exact ⟨f, o, F', X, F2', c', s', mx_lw _ _ _ _ _ _ _ _ _ e2 h1, h3⟩
theorem HR.app {σ : Nat → Nat} {K K2 X : MK} {F F2 : MF} (h : HR D σ K K2 F F2) (hl : (K2 ++ X).length ≤ 1000000) : HR D σ K (K2 ++ X) F F2 := by
  obtain ⟨h1, h2, h3, h4, h5, h6⟩ := h
  refine ⟨h1, fun a ha => ?_, h3, h4, h5, hl⟩
  obtain ⟨k, e1, e2, e3⟩ := h2 a ha
  exact ⟨k, e1, by rw [List.getElem?_append_left (List.getElem?_eq_some_iff.mp e2).1]; exact e2, e3⟩
theorem wv_ok {pc' : Nat} {ls' : ML} {st' : List MV} {F1 : MF} (ht : (m_tb M)[pc]? = some (some (i, q)))
    (hm : ∀ c s, mstep i q pc ls st (F, m_KD, c, s) = .ok (pc', ls', st', (F1, m_KD, c, s))) (K : Wv D nc ns M pc' ls' st' F1 Q) : Wv D nc ns M pc ls st F Q := by
  intro d hd σ K2 F2 c2 s2 hR hl hs hn
  obtain ⟨-, -, -, F2', e1, e2, e3, e4, e5⟩ := (rk_step (q := q) (pc := pc) (c := 0) (s := 0) (c2 := c2) (s2 := s2) hR hl hs i).1 _ _ _ _ _ _ _ (hm 0 0) rfl
  obtain ⟨f, o, F', X, F3, c', s', h1, h2, h3, h4, h5, h6, h7, h8⟩ := K d hd σ K2 F2' c2 s2 e2 e3 e4 hn
  exact ⟨f + 1, o, F', X, F3, c', s', (by simp only [mx, ht, e1]; exact h1), h2, h3, h4, h5, h6, h7, fun b hb hb2 => (h8 b hb hb2).trans (e5 b hb2)⟩
theorem wv_ret {xs : List MV} (ht : (m_tb M)[pc]? = some (some (i, q)))
    (hm : ∀ c s, mstep i q pc ls st (F, m_KD, c, s) = .error (2, 0, xs, [])) (K : Q (0, xs) F) : Wv D nc ns M pc ls st F Q := by
  intro d hd σ K2 F2 c2 s2 hR hl hs hn
  obtain ⟨e1, e2, -⟩ := (rk_step (q := q) (pc := pc) (c := 0) (s := 0) (c2 := c2) (s2 := s2) hR hl hs i).2 _ _ _ _ (hm 0 0) (by decide)
  refine ⟨1, (0, xs), F, [], F2, c2, s2, ?_, K, e2, by rw [List.append_nil]; exact hR, by show 0 ≤ nc; omega, by omega, by omega, fun _ _ _ => rfl⟩
  simp only [mx, ht, e1]
  rw [List.append_nil]
/-- a call of what makes nothing; what it throws is caught here -/
theorem wv_call {xs r : List MV} (ht : (m_tb M)[pc]? = some (some (i, q)))
    (hm : ∀ c s, mstep i q pc ls st (F, m_KD, c, s) = .error (1, N, xs, r)) (hN : N < 387 ∨ 420 < N) (hg : m_hg N < m_hg M)
    (K : Ev N 0 (m_ini (m_mls.getD N 0) xs) [] F (fun o F' => (o.1 = 0 ∧ Wv D nc ns M (pc + 3) ls (o.2 ++ r) F' Q) ∨ (∃ e hp, o.1 = e + 1 ∧ m_hnd M pc e = some hp ∧ N < 387 ∧ (q.2.2.2 = 0 ∨ q.2.2.2 = 2) ∧ 1 ≤ nc ∧ 6 ≤ ns ∧ Wv D (nc - 1) (ns - 6) M hp ls [(3, 0)] F' Q))) : Wv D nc ns M pc ls st F Q := by
  intro d hd σ K2 F2 c2 s2 hR hl hs hn
  obtain ⟨e1, e2, e3⟩ := (rk_step (q := q) (pc := pc) (c := 0) (s := 0) (c2 := c2) (s2 := s2) hR hl hs i).2 _ _ _ _ (hm 0 0) (by decide)
  cases d with
  | zero => omega
  | succ d =>
    obtain ⟨f, ⟨o1, o2⟩, F1, c1, s1, h1, h2, h3, h4⟩ := K d (by omega) 0 0
    obtain ⟨-, -, -, F3, k1, k2, k3, k4⟩ := rl_mx _ _ _ _ _ _ _ _ _ _ _ _ _ _ h1 rfl F2 c2 s2 hR (gl_ini e2) gs_nil
    rw [lm_ini] at k1
    have k1 : mx f d N 0 (m_ini (m_mls.getD N 0) (xs.map (vm σ))) [] (F2, K2, c2, s2) = some ((o1, o2.map (vm σ)), (F3, K2, c2 + (c1 - 0), s2 + (s1 - 0))) := k1
    rcases h4 with ⟨w1, h4⟩ | ⟨e, hp, w1, w2, w3, w4, w5, w6, h4⟩
    · dsimp only at w1
      subst w1
      have w0 : m_wt N (0, o2) = 0 := by
        unfold m_wt
        rw [if_pos ⟨rfl, hN⟩]
      rw [w0] at h2 h3
      obtain ⟨f2, o, F', X, F4, c', s', j1, j2, j3, j4, j5, j6, j7, j8⟩ := h4 (d + 1) hd σ K2 F3 (c2 + (c1 - 0)) (s2 + (s1 - 0)) k2 hl (gs_app k3 e3) hn
      refine ⟨max f f2 + 1, o, F', X, F4, c', s', ?_, j2, j3, j4, j5, by omega, by omega, fun b hb hb2 => (j8 b hb hb2).trans (k4 b hb2)⟩
      have e5 := mx_le (Nat.le_max_left f f2) k1
      simp only [mx, ht, e1, e5]
      rw [List.map_append] at j1
      exact mx_le (Nat.le_max_right f f2) j1
    · dsimp only at w1
      subst w1
      have w1 : m_wt N (e + 1, o2) = 1 := by
        unfold m_wt
        rw [if_neg (fun h => by cases h.1)]
      rw [w1] at h2 h3
      obtain ⟨f2, o, F', X, F4, c', s', j1, j2, j3, j4, j5, j6, j7, j8⟩ := h4 (d + 1) hd σ K2 F3 (c2 + (c1 - 0)) (s2 + (s1 - 0)) k2 hl (gs_c.mpr ⟨gv_n (by decide), gs_nil⟩) (by omega)
      refine ⟨max f f2 + 1, o, F', X, F4, c', s', ?_, j2, j3, j4, by omega, by omega, by omega, fun b hb hb2 => (j8 b hb hb2).trans (k4 b hb2)⟩
      have hz : ¬ (387 ≤ N ∨ ¬ (q.2.2.2 = 0 ∨ q.2.2.2 = 2)) := by omega
      have e5 := mx_le (Nat.le_max_left f f2) k1
      simp only [mx, ht, e1, e5, if_neg hz, w2]
      exact mx_le (Nat.le_max_right f f2) j1
/-- a call of what makes something -/
theorem wv_callW {xs r : List MV} {na nb : Nat} (ht : (m_tb M)[pc]? = some (some (i, q)))
    (hm : ∀ c s, mstep i q pc ls st (F, m_KD, c, s) = .error (1, N, xs, r)) (hg : m_hg N < m_hg M) (ha : na ≤ nc) (hb : nb ≤ ns)
    (K : Wv D na nb N 0 (m_ini (m_mls.getD N 0) xs) [] F (fun o F' => o.1 = 0 ∧ Wv D (nc - na) (ns - nb) M (pc + 3) ls (o.2 ++ r) F' Q)) : Wv D nc ns M pc ls st F Q := by
  intro d hd σ K2 F2 c2 s2 hR hl hs hn
  obtain ⟨e1, e2, e3⟩ := (rk_step (q := q) (pc := pc) (c := 0) (s := 0) (c2 := c2) (s2 := s2) hR hl hs i).2 _ _ _ _ (hm 0 0) (by decide)
  cases d with
  | zero => omega
  | succ d =>
    obtain ⟨f, ⟨o1, o2⟩, F1, X, F3, c1, s1, k1, ⟨w1, h4⟩, k3, k2, k5, k6, k7, k4⟩ := K d (by omega) σ K2 F2 c2 s2 hR (gl_ini e2) gs_nil (by omega)
    rw [lm_ini] at k1
    have k1 : mx f d N 0 (m_ini (m_mls.getD N 0) (xs.map (vm σ))) [] (F2, K2, c2, s2) = some ((o1, o2.map (vm σ)), (F3, K2 ++ X, c1, s1)) := k1
    dsimp only at w1
    subst w1
    obtain ⟨f2, o, F', Y, F4, c', s', j1, j2, j3, j4, j5, j6, j7, j8⟩ := h4 (d + 1) hd σ (K2 ++ X) F3 c1 s1 k2 hl (gs_app k3 e3) (by rw [List.length_append]; omega)
    refine ⟨max f f2 + 1, o, F', X ++ Y, F4, c', s', ?_, j2, j3, by rw [← List.append_assoc]; exact j4, by rw [List.length_append]; omega, by omega, by omega, fun b hb hb2 => (j8 b (by rw [List.length_append]; omega) hb2).trans (k4 b hb hb2)⟩
    have e5 := mx_le (Nat.le_max_left f f2) k1
    simp only [mx, ht, e1, e5]
    rw [List.map_append, List.append_assoc] at j1
    exact mx_le (Nat.le_max_right f f2) j1
end Ms3
