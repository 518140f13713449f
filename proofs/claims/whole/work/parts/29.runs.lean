/-! RUNS OF THE SMALL MACHINE, FOR PROOFS -/
def m_KD : MK := [(11,10), (1,7), (2,3), (102,576), (100,24), (100,24), (118,3), (119,3), (100,600), (7,6), (100,200), (100,200), (8,9), (100,192), (100,192), (100,192), (100,192), (100,192), (100,192), (100,192), (103,8), (9,13), (100,640), (100,200), (100,200), (100,200), (100,40), (100,40), (100,40), (100,40), (100,40), (8,9), (100,192), (100,192), (100,192), (100,192), (100,192), (100,192), (100,192), (103,8), (9,13), (100,640), (100,200), (100,200), (100,200), (100,40), (100,40), (100,40), (100,40), (100,40), (8,9), (100,192), (100,192), (100,192), (100,192), (100,192), (100,192), (100,192), (103,8), (9,13), (100,640), (100,200), (100,200), (100,200), (100,40), (100,40), (100,40), (100,40), (100,40), (4,15), (100,0), (100,200), (100,200), (100,200), (100,200), (100,200), (100,200), (100,200), (100,200), (100,200), (2,3), (102,576), (100,24), (100,24), (10,6), (100,602), (100,200), (100,200), (100,1200), (5,1), (100,3872), (6,10), (101,800), (101,800), (100,4), (100,4), (0,4), (100,200), (9,13), (100,640), (100,200), (100,200), (100,200), (100,40), (100,40), (100,40), (100,40), (100,40), (100,300), (3,15), (1,7), (2,3), (102,576), (100,24), (100,24), (118,3), (119,3), (100,600), (7,6), (100,200), (100,200), (8,9), (100,192), (100,192), (100,192), (100,192), (100,192), (100,192), (100,192), (103,8), (9,13), (100,640), (100,200), (100,200), (100,200), (100,40), (100,40), (100,40), (100,40), (100,40), (8,9), (100,192), (100,192), (100,192), (100,192), (100,192), (100,192), (100,192), (103,8), (9,13), (100,640), (100,200), (100,200), (100,200), (100,40), (100,40), (100,40), (100,40), (100,40), (8,9), (100,192), (100,192), (100,192), (100,192), (100,192), (100,192), (100,192), (103,8), (9,13), (100,640), (100,200), (100,200), (100,200), (100,40), (100,40), (100,40), (100,40), (100,40), (4,15), (100,0), (100,200), (100,200), (100,200), (100,200), (100,200), (100,200), (100,200), (100,200), (100,200), (100,3), (100,3), (100,3), (100,3), (102,18), (100,3), (100,600), (100,24), (100,600), (102,192), (102,24), (102,6), (12,118), (100,576), (100,24), (100,576), (100,24), (100,6), (100,3), (100,3), (100,3), (100,3), (100,18), (100,3), (100,600), (100,600), (100,600), (100,600), (100,3), (103,24), (103,576), (100,210), (100,1600), (100,1600), (100,1600), (100,1600), (100,1600), (100,1600), (100,1600), (100,1600), (100,1600), (100,600), (100,600), (100,600), (100,210), (100,210), (100,210), (100,210), (100,210), (100,420), (100,420), (100,210), (100,210), (103,210), (100,210), (100,210), (100,3), (100,3), (100,600), (100,600), (100,600), (100,4), (100,1600), (100,3200), (100,600), (100,1600), (100,2200), (100,2200), (100,2000), (100,4000), (101,2000), (101,2400), (100,5), (100,3751), (100,10), (100,800), (100,210), (100,210), (100,576), (100,24), (100,1200), (100,24), (100,120), (100,600), (100,600), (103,600), (100,24), (100,24), (100,601), (100,601), (103,8), (100,24), (101,1)]
def m_hgs : List Nat := [1, 5, 1, 6, 3, 1, 3, 2, 2, 1, 1, 6, 4, 0, 3, 2, 1, 1, 1, 2, 0, 0, 0, 1, 1, 0, 0, 0, 0, 1, 0, 1, 1, 2, 0, 0, 0, 1, 1, 1, 7, 1, 1, 0, 3, 2, 1, 4, 1, 1, 1, 3, 1, 0, 2, 2, 6, 0, 4, 0, 1, 0, 3, 2, 2, 1, 2, 1, 3, 2, 0, 1, 1, 0, 0, 3, 0, 1, 2, 1, 0, 7, 0, 0, 4, 1, 2, 6, 0, 1, 0, 1, 1, 5, 3, 0, 2, 0, 1, 0, 0, 1, 2, 0, 0, 0, 0, 0, 0, 3, 2, 1, 5, 4, 0, 1, 1, 0, 1, 0, 0, 0, 0, 0, 0, 0, 0, 0, 0, 0, 5, 2, 4, 3, 0, 0, 1, 0, 0, 1, 3, 5, 5, 6, 5, 3, 7, 4, 3, 0, 8, 8, 8, 8, 8, 8, 8, 8, 8, 8, 8, 8, 8, 8, 8, 8, 8, 8, 2, 0, 8, 8, 8, 8, 8, 1, 8, 8, 8, 2, 2, 3, 7, 7, 7, 7, 2, 4, 7, 7, 2, 0, 2, 0, 0, 0, 0, 0, 0, 0, 0, 0, 0, 0, 1, 2, 0, 1, 1, 0, 1, 0, 0, 1, 2, 3, 4, 5, 6, 1, 2, 0, 0, 0, 1, 2, 0, 1, 0, 0, 3, 4, 4, 5, 0, 0, 1, 1, 0, 2, 3, 1, 2, 2, 6, 7, 8, 0, 9, 0, 1, 1, 2, 3, 2, 4, 3, 3, 4, 0, 5, 6, 10, 0, 0, 0, 1, 1, 2, 0, 0, 2, 3, 4, 0, 0, 1, 2, 0, 0, 0, 0, 0, 1, 2, 3, 0, 1, 2, 4, 12, 11, 0, 0, 0, 1, 1, 1, 2, 9, 2, 3, 4, 4, 10, 0, 0, 1, 1, 0, 0, 0, 0, 2, 0, 1, 11, 3, 0, 5, 6, 7, 1, 1, 0, 2, 2, 1, 3, 0, 1, 11, 12, 13, 1, 0, 6, 6, 7, 7, 0, 1, 3, 2, 7, 7, 1, 0, 2, 2, 3, 4, 3, 0, 11, 12, 12, 13, 14, 11, 13, 11, 12, 12, 13, 13, 12, 13, 12, 12, 13, 14, 13, 11, 11, 2, 0, 13, 13, 0, 13, 13, 13, 0, 14, 2, 14, 6, 6, 7, 6, 4, 8, 5, 4, 9, 9, 9, 9, 9, 9, 9, 9, 9, 9, 9, 9, 9, 9, 9, 9, 9, 3, 9, 9, 9, 9, 9, 9, 9, 15, 1, 5, 0, 0, 0, 0, 3, 4, 0, 0, 0, 2, 0, 3, 3, 2, 0, 0]
def m_hg (M : Nat) : Nat := m_hgs.getD M 99
theorem mx_mono : ∀ (f d M pc : Nat) (ls : ML) (st : List MV) (h : MH) (r : (Nat × List MV) × MH), mx f d M pc ls st h = some r → mx (f + 1) d M pc ls st h = some r := by
  intro f
  induction f with
  | zero => intro d M pc ls st h r hr; cases hr
  | succ f ih =>
    intro d M pc ls st h r hr
    unfold mx at hr ⊢
    split at hr
    · next i q ht =>
      split at hr
      · next pc' ls' st' h' hm => exact ih _ _ _ _ _ _ _ hr
      · next N xs r0 hm =>
        cases d with
        | zero => cases hr
        | succ d =>
          dsimp only at hr ⊢
          split at hr
          · next vs h' hc =>
            rw [ih _ _ _ _ _ _ _ hc]
            exact ih _ _ _ _ _ _ _ hr
          · next e vs h' hc =>
            rw [ih _ _ _ _ _ _ _ hc]
            dsimp only
            split at hr
            · cases hr
            · next hn =>
              rw [if_neg hn]
              split at hr
              · next hp hh =>
                exact ih _ _ _ _ _ _ _ hr
              · next hh =>
                exact hr
          · cases hr
      · exact hr
      · exact hr
      · cases hr
    · cases hr
theorem mx_le {f g d M pc : Nat} {ls : ML} {st : List MV} {h : MH} {r : (Nat × List MV) × MH} (hfg : f ≤ g) (hr : mx f d M pc ls st h = some r) : mx g d M pc ls st h = some r := by
  induction hfg with
  | refl => exact hr
  | step _ ih => exact mx_mono _ _ _ _ _ _ _ _ ih
abbrev MF : Type := Nat → Nat → Int
/-- what a run costs: one exception, unless it ends well outside the law -/
def m_wt (M : Nat) (o : Nat × List MV) : Nat := if o.1 = 0 ∧ (M < 387 ∨ 420 < M) then 0 else 1
def Ev (M pc : Nat) (ls : ML) (st : List MV) (F : MF) (Q : Nat × List MV → MF → Prop) : Prop :=
  ∀ d, m_hg M ≤ d → ∀ c s, ∃ (f : Nat) (o : Nat × List MV) (F' : MF) (c' s' : Nat), mx f d M pc ls st (F, m_KD, c, s) = some (o, (F', m_KD, c', s')) ∧ c' ≤ c + m_wt M o ∧ s' ≤ s + 6 * m_wt M o ∧ Q o F'
def At (M pc : Nat) (rs : List (Option (Instr × LK))) : Prop := ∀ (j : Nat) (x : Option (Instr × LK)), rs[j]? = some x → (m_tb M)[pc + j]? = some x
theorem At.hd {M pc : Nat} {x : Option (Instr × LK)} {r : List (Option (Instr × LK))} (h : At M pc (x :: r)) : (m_tb M)[pc]? = some x := h 0 x rfl
theorem At.tl {M pc : Nat} {x : Option (Instr × LK)} {r : List (Option (Instr × LK))} (h : At M pc (x :: r)) : At M (pc + 1) r := fun j y hy => by
  have := h (j + 1) y hy
  rwa [show pc + (j + 1) = pc + 1 + j by omega] at this
theorem At.tl2 {M pc : Nat} {x y : Option (Instr × LK)} {r : List (Option (Instr × LK))} (h : At M pc (x :: y :: r)) : At M (pc + 2) r := h.tl.tl
theorem At.tl3 {M pc : Nat} {x y z : Option (Instr × LK)} {r : List (Option (Instr × LK))} (h : At M pc (x :: y :: z :: r)) : At M (pc + 3) r := h.tl.tl.tl
theorem At.of {M pc : Nat} {rs : List (Option (Instr × LK))} (h : decide (((m_tb M).drop pc).take rs.length = rs) = true) : At M pc rs := by
  intro j x hj
  have h1 := of_decide_eq_true h
  have hl : j < rs.length := (List.getElem?_eq_some_iff.mp hj).1
  rw [← h1, List.getElem?_take_of_lt hl, List.getElem?_drop] at hj
  exact hj
theorem Ev.mono {M pc : Nat} {ls : ML} {st : List MV} {F : MF} {Q R : Nat × List MV → MF → Prop} (h : Ev M pc ls st F Q) (hQ : ∀ o F', Q o F' → R o F') : Ev M pc ls st F R := by
  intro d hd c s
  obtain ⟨f, o, F', c', s', h1, h2, h3, h4⟩ := h d hd c s
  exact ⟨f, o, F', c', s', h1, h2, h3, hQ o F' h4⟩
theorem ev_ok {M pc pc' : Nat} {i : Instr} {q : LK} {ls ls' : ML} {st st' : List MV} {F F' : MF} {Q : Nat × List MV → MF → Prop} (ht : (m_tb M)[pc]? = some (some (i, q)))
    (hm : ∀ c s, mstep i q pc ls st (F, m_KD, c, s) = .ok (pc', ls', st', (F', m_KD, c, s))) (K : Ev M pc' ls' st' F' Q) : Ev M pc ls st F Q := by
  intro d hd c s
  obtain ⟨f, o, F2, c', s', h1, h2⟩ := K d hd c s
  exact ⟨f + 1, o, F2, c', s', (by simp only [mx, ht, hm]; exact h1), h2⟩
/-- a return -/
theorem ev_ret {M pc : Nat} {i : Instr} {q : LK} {ls : ML} {st xs : List MV} {F : MF} {Q : Nat × List MV → MF → Prop} (ht : (m_tb M)[pc]? = some (some (i, q)))
    (hm : ∀ c s, mstep i q pc ls st (F, m_KD, c, s) = .error (2, 0, xs, [])) (K : Q (0, xs) F) : Ev M pc ls st F Q := by
  intro d hd c s
  exact ⟨1, (0, xs), F, c, s, (by simp only [mx, ht, hm]), by omega, by omega, K⟩
/-- a throw -/
theorem ev_thr {M pc e : Nat} {i : Instr} {q : LK} {ls : ML} {st r : List MV} {F : MF} {Q : Nat × List MV → MF → Prop} (ht : (m_tb M)[pc]? = some (some (i, q)))
    (hm : ∀ c s, mstep i q pc ls st (F, m_KD, c, s) = .error (3, e, [], r)) (K : Q (e + 1, []) F) : Ev M pc ls st F Q := by
  intro d hd c s
  refine ⟨1, (e + 1, []), F, c + 1, s + 6, (by simp only [mx, ht, hm]; rfl), ?_, ?_, K⟩
  · unfold m_wt
    rw [if_neg (fun h => by cases h.1)]
    omega
  · unfold m_wt
    rw [if_neg (fun h => by cases h.1)]
    omega
theorem m_hnd_none {M pc x : Nat} (h : M < 387 ∨ 420 < M) : m_hnd M pc x = none := by
  have h1 : m_hhs.find? (fun q => q.1 == M) = none := by
    rw [List.find?_eq_none]
    have h2 : ∀ q ∈ m_hhs, 387 ≤ q.1 ∧ q.1 ≤ 420 := by decide
    intro q hq
    have := h2 q hq
    simp only [beq_iff_eq]
    omega
  unfold m_hnd m_hh
  rw [h1]
  rfl
/-- a call, in a method of the class or the reference: what comes out goes on, or is thrown on -/
theorem ev_call {M N pc : Nat} {i : Instr} {q : LK} {ls : ML} {st xs r : List MV} {F : MF} {Q : Nat × List MV → MF → Prop} (ht : (m_tb M)[pc]? = some (some (i, q)))
    (hm : ∀ c s, mstep i q pc ls st (F, m_KD, c, s) = .error (1, N, xs, r)) (hM : M < 387 ∨ 420 < M) (hN : N < 387 ∨ 420 < N) (hg : m_hg N < m_hg M)
    (K : Ev N 0 (m_ini (m_mls.getD N 0) xs) [] F (fun o F' => (o.1 = 0 ∧ Ev M (pc + 3) ls (o.2 ++ r) F' Q) ∨ (∃ e, o.1 = e + 1 ∧ N < 387 ∧ (q.2.2.2 = 0 ∨ q.2.2.2 = 2) ∧ Q (e + 1, []) F'))) : Ev M pc ls st F Q := by
  intro d hd c s
  cases d with
  | zero => omega
  | succ d =>
    obtain ⟨f, ⟨o1, o2⟩, F', c', s', h1, h2, h3, h4⟩ := K d (by omega) c s
    rcases h4 with ⟨e1, h4⟩ | ⟨e, e1, e2, e3, h4⟩
    · dsimp only at e1
      subst e1
      obtain ⟨f2, o, F2, c2, s2, k1, k2, k3, k4⟩ := h4 (d + 1) hd c' s'
      have w0 : m_wt N (0, o2) = 0 := by
        unfold m_wt
        rw [if_pos ⟨rfl, hN⟩]
      rw [w0] at h2 h3
      refine ⟨max f f2 + 1, o, F2, c2, s2, ?_, by omega, by omega, k4⟩
      have e1 := mx_le (Nat.le_max_left f f2) h1
      simp only [mx, ht, hm, e1]
      exact mx_le (Nat.le_max_right f f2) k1
    · dsimp only at e1
      subst e1
      have w1 : m_wt N (e + 1, o2) = 1 := by
        unfold m_wt
        rw [if_neg (fun h => by cases h.1)]
      have w2 : m_wt M (e + 1, []) = 1 := by
        unfold m_wt
        rw [if_neg (fun h => by cases h.1)]
      rw [w1] at h2 h3
      refine ⟨f + 1, (e + 1, []), F', c', s', ?_, by rw [w2]; exact h2, by rw [w2]; exact h3, h4⟩
      have hz : ¬ (387 ≤ N ∨ ¬ (q.2.2.2 = 0 ∨ q.2.2.2 = 2)) := by omega
      simp only [mx, ht, hm, h1, if_neg hz, m_hnd_none hM]

/-- locals that nobody reads may hold anything -/
def Lw (l l' : ML) : Prop := l.length = l'.length ∧ ∀ (i : Nat) (v : MV), l[i]? = some (some v) → l'[i]? = some (some v)
def Rw (X Y : Except ME MS) : Prop := (∀ (pc : Nat) (l : ML) (st : List MV) (h : MH), X = .ok (pc, l, st, h) → ∃ l', Y = .ok (pc, l', st, h) ∧ Lw l l') ∧ ∀ e : ME, X = .error e → e.1 ≠ 0 → Y = .error e
theorem rw_ok {pc : Nat} {l l' : ML} {st : List MV} {h : MH} (hl : Lw l l') : Rw (.ok (pc, l, st, h)) (.ok (pc, l', st, h)) := ⟨fun _ _ _ _ e => (by cases e; exact ⟨l', rfl, hl⟩), fun _ e => (by cases e)⟩
theorem rw_ko {Y : Except ME MS} : Rw m_ko Y := ⟨fun _ _ _ _ e => (by cases e), fun _ e h0 => (by cases e; exact absurd rfl h0)⟩
theorem rw_er {e : ME} : Rw (.error e) (.error e) := ⟨fun _ _ _ _ h => (by cases h), fun _ h _ => h⟩
theorem lw_set {l l' : ML} (hl : Lw l l') (i : Nat) (v : Option MV) : Lw (l.set i v) (l'.set i v) := by
  refine ⟨by rw [List.length_set, List.length_set, hl.1], fun j w hj => ?_⟩
  rw [List.getElem?_set] at hj ⊢
  split at hj
  · next e =>
    rw [if_pos e]
    split at hj
    · next e2 => rw [if_pos (by rw [← hl.1]; exact e2)]; exact hj
    · cases hj
  · next e =>
    rw [if_neg e]
    exact hl.2 j w hj
theorem lw_setN {l l' : ML} (hl : Lw l l') (i : Nat) : Lw l (l'.set i none) ∨ True := Or.inr trivial
theorem lw_non {l l' : ML} (hl : Lw l l') (k : Nat) (hk : ∀ v, l[k]? ≠ some (some v)) : Lw l (l'.set k none) := by
  refine ⟨by rw [List.length_set, hl.1], fun j w hj => ?_⟩
  have hne : k ≠ j := fun e => hk w (by rw [e]; exact hj)
  rw [List.getElem?_set_ne hne]
  exact hl.2 j w hj
theorem m_st_lw {l l' l2 : ML} {i : Nat} {v : MV} (hl : Lw l l') (h : m_st l i v = some l2) : ∃ l2', m_st l' i v = some l2' ∧ Lw l2 l2' := by
  unfold m_st at h ⊢
  split at h
  · next hlen =>
    rw [if_pos (by rw [← hl.1]; exact hlen)]
    have h3 : Lw (if v.1 = 1 then (l.set i (some v)).set (i + 1) none else l.set i (some v)) (if v.1 = 1 then (l'.set i (some v)).set (i + 1) none else l'.set i (some v)) := by
      split
      · exact lw_set (lw_set hl _ _) _ _
      · exact lw_set hl _ _
    dsimp only at h ⊢
    cases i with
    | zero =>
      dsimp only at h ⊢
      cases h
      exact ⟨_, rfl, h3⟩
    | succ k =>
      dsimp only at h ⊢
      split at h
      · next x hx =>
        cases h
        rw [hl.2 k _ hx]
        exact ⟨_, rfl, lw_set h3 _ _⟩
      · next hx =>
        cases h
        split
        · next x hx' =>
          refine ⟨_, rfl, lw_non h3 k (fun w hw => ?_)⟩
          have hs : ∀ (a : ML), (a.set (k + 1) (some v))[k]? = a[k]? := fun a => List.getElem?_set_ne (by omega)
          have hs2 : ∀ (a : ML), ((a.set (k + 1) (some v)).set (k + 1 + 1) none)[k]? = a[k]? := fun a => by rw [List.getElem?_set_ne (by omega), hs]
          have hw' : l[k]? = some (some w) := by
            split at hw
            · rw [hs2] at hw; exact hw
            · rw [hs] at hw; exact hw
          have := hl.2 k w hw'
          rw [hx'] at this
          cases this
          exact hx _ hw'
        · exact ⟨_, rfl, h3⟩
  · cases h
theorem rw_put {l l' : ML} {i pc : Nat} {v : MV} {st : List MV} {h : MH} (hl : Lw l l') : Rw (m_put (m_st l i v) pc st h) (m_put (m_st l' i v) pc st h) := by
  cases hc : m_st l i v with
  | none => exact rw_ko
  | some l2 =>
    obtain ⟨l2', h1, h2⟩ := m_st_lw hl hc
    rw [h1]
    exact rw_ok h2
theorem rw_go {l l' : ML} {pc : Nat} {off : Int} {st : List MV} {h : MH} (hl : Lw l l') : Rw (m_go pc off l st h) (m_go pc off l' st h) := by
  unfold m_go
  split
  · exact rw_ok hl
  · exact rw_ko
theorem rw_ldi {l l' : ML} {n pc : Nat} {st : List MV} {h : MH} (hl : Lw l l') : Rw (m_ldi l n pc st h) (m_ldi l' n pc st h) := by
  unfold m_ldi
  split
  · next x hx => rw [hl.2 _ _ hx]; exact rw_ok hl
  · exact rw_ko
theorem rw_ldl {l l' : ML} {n pc : Nat} {st : List MV} {h : MH} (hl : Lw l l') : Rw (m_ldl l n pc st h) (m_ldl l' n pc st h) := by
  unfold m_ldl
  split
  · next x hx => rw [hl.2 _ _ hx]; exact rw_ok hl
  · exact rw_ko
theorem rw_lda {l l' : ML} {n pc : Nat} {st : List MV} {h : MH} (hl : Lw l l') : Rw (m_lda l n pc st h) (m_lda l' n pc st h) := by
  unfold m_lda
  split
  · next t x hx => rw [hl.2 _ _ hx]; exact rw_ok hl
  · exact rw_ko
theorem rw_stv {l l' : ML} {lo hi n pc : Nat} {st : List MV} {h : MH} (hl : Lw l l') : Rw (m_stv lo hi n pc l st h) (m_stv lo hi n pc l' st h) := by
  unfold m_stv
  split
  · split
    · exact rw_put hl
    · exact rw_ko
  · exact rw_ko
set_option maxHeartbeats 8000000 in
theorem rw_step {l l' : ML} {pc : Nat} {st : List MV} {h : MH} {i : Instr} {q : LK} (hl : Lw l l') : Rw (mstep i q pc l st h) (mstep i q pc l' st h) := by
  cases i with
  | iinc n c =>
    simp only [mstep]
    split
    · next x hx =>
      rw [hl.2 _ _ hx]
      exact rw_put hl
    · exact rw_ko
  | _ =>
    simp only [mstep]
    first
      | exact rw_ko
      | exact rw_ok hl
      | exact rw_er
      | exact rw_go hl
      | exact rw_ldi hl
      | exact rw_ldl hl
      | exact rw_lda hl
      | exact rw_stv hl
      | (try simp only [m_i2, m_l2, m_of, m_get, m_putf, m_aast, m_aald, m_alen, m_ascr, m_atc, m_ald, m_ast, m_mkarr, m_copy, m_call, m_iret]
         repeat' split
         all_goals first
           | exact rw_ko
           | exact rw_ok hl
           | exact rw_er
           | exact rw_go hl)
theorem mx_lw : ∀ (f d M pc : Nat) (l l' : ML) (st : List MV) (h : MH) (r : (Nat × List MV) × MH), Lw l l' → mx f d M pc l st h = some r → mx f d M pc l' st h = some r := by
  intro f
  induction f with
  | zero => intro d M pc l l' st h r hl hr; cases hr
  | succ f ih =>
    intro d M pc l l' st h r hl hr
    unfold mx at hr ⊢
    split at hr
    · next i q ht =>
      have hw := rw_step (l := l) (l' := l') (pc := pc) (st := st) (h := h) (i := i) (q := q) hl
      split at hr
      · next pc' ls' st' h' hm =>
        obtain ⟨l2, h1, h2⟩ := hw.1 _ _ _ _ hm
        rw [h1]
        exact ih _ _ _ _ _ _ _ _ h2 hr
      · next N xs r0 hm =>
        have hm2 := hw.2 _ hm (by simp)
        cases d with
        | zero => cases hr
        | succ d =>
          dsimp only at hr
          split at hr
          · next vs h' hc =>
            simp only [hm2, hc]
            exact ih _ _ _ _ _ _ _ _ hl hr
          · next e vs h' hc =>
            split at hr
            · cases hr
            · next hn =>
              split at hr
              · next hp hh =>
                simp only [hm2, hc, if_neg hn, hh]
                exact ih _ _ _ _ _ _ _ _ hl hr
              · next hh =>
                simp only [hm2, hc, if_neg hn, hh]
                exact hr
          · cases hr
      · next a xs b hm =>
        have hm2 := hw.2 _ hm (by simp)
        simp only [hm2]
        exact hr
      · next e a b hm =>
        have hm2 := hw.2 _ hm (by simp)
        simp only [hm2]
        exact hr
      · cases hr
    · cases hr
theorem Ev.lw {M pc : Nat} {l l' : ML} {st : List MV} {F : MF} {Q : Nat × List MV → MF → Prop} (h : Ev M pc l st F Q) (hl : Lw l l') : Ev M pc l' st F Q := by
  intro d hd c s
  obtain ⟨f, o, F', c', s', h1, h2⟩ := h d hd c s
  exact ⟨f, o, F', c', s', mx_lw _ _ _ _ _ _ _ _ _ hl h1, h2⟩
