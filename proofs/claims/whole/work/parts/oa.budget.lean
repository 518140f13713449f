/-! RUNS WITH A BUDGET OF EXCEPTIONS: rules for the law and what it calls -/
/-- a run that costs at most kb exceptions -/
def EvN (kb M pc : Nat) (ls : ML) (st : List MV) (F : MF) (Q : Nat × List MV → MF → Prop) : Prop :=
  ∀ d, m_hg M ≤ d → ∀ c s, ∃ (f : Nat) (o : Nat × List MV) (F' : MF) (c' s' : Nat), mx f d M pc ls st (F, m_KD, c, s) = some (o, (F', m_KD, c', s')) ∧ c' ≤ c + kb ∧ s' ≤ s + 6 * kb ∧ Q o F'
theorem evn_ok {kb M pc pc' : Nat} {i : Instr} {q : LK} {ls ls' : ML} {st st' : List MV} {F F' : MF} {Q : Nat × List MV → MF → Prop} (ht : (m_tb M)[pc]? = some (some (i, q)))
    (hm : ∀ c s, mstep i q pc ls st (F, m_KD, c, s) = .ok (pc', ls', st', (F', m_KD, c, s))) (K : EvN kb M pc' ls' st' F' Q) : EvN kb M pc ls st F Q := by
  intro d hd c s
  obtain ⟨f, o, F2, c', s', h1, h2⟩ := K d hd c s
  exact ⟨f + 1, o, F2, c', s', (by simp only [mx, ht, hm]; exact h1), h2⟩
theorem evn_ret {kb M pc : Nat} {i : Instr} {q : LK} {ls : ML} {st xs : List MV} {F : MF} {Q : Nat × List MV → MF → Prop} (ht : (m_tb M)[pc]? = some (some (i, q)))
    (hm : ∀ c s, mstep i q pc ls st (F, m_KD, c, s) = .error (2, 0, xs, [])) (K : Q (0, xs) F) : EvN kb M pc ls st F Q := by
  intro d hd c s
  exact ⟨1, (0, xs), F, c, s, (by simp only [mx, ht, hm]), by omega, by omega, K⟩
theorem EvN.lw {kb M pc : Nat} {l l' : ML} {st : List MV} {F : MF} {Q : Nat × List MV → MF → Prop} (h : EvN kb M pc l st F Q) (hl : Lw l l') : EvN kb M pc l' st F Q := by
  intro d hd c s
  obtain ⟨f, o, F2, c', s', h1, h2⟩ := h d hd c s
  exact ⟨f, o, F2, c', s', mx_lw _ _ _ _ _ _ _ _ _ hl h1, h2⟩
theorem EvN.mono {kb M pc : Nat} {ls : ML} {st : List MV} {F : MF} {Q R : Nat × List MV → MF → Prop} (h : EvN kb M pc ls st F Q) (hQ : ∀ o F', Q o F' → R o F') : EvN kb M pc ls st F R := by
  intro d hd c s
  obtain ⟨f, o, F2, c', s', h1, h2, h3, h4⟩ := h d hd c s
  exact ⟨f, o, F2, c', s', h1, h2, h3, hQ o F2 h4⟩
/-- a call of the class or the reference, of which nothing is thrown -/
theorem evn_call {kb M N pc : Nat} {i : Instr} {q : LK} {ls : ML} {st xs r : List MV} {F : MF} {Q : Nat × List MV → MF → Prop} (ht : (m_tb M)[pc]? = some (some (i, q)))
    (hm : ∀ c s, mstep i q pc ls st (F, m_KD, c, s) = .error (1, N, xs, r)) (hN : N < 387) (hg : m_hg N < m_hg M)
    (K : Ev N 0 (m_ini (m_mls.getD N 0) xs) [] F (fun o F' => (o.1 = 0 ∧ EvN kb M (pc + 3) ls (o.2 ++ r) F' Q) ∨ (∃ e hp, o.1 = e + 1 ∧ m_hnd M pc e = some hp ∧ (q.2.2.2 = 0 ∨ q.2.2.2 = 2) ∧ 1 ≤ kb ∧ EvN (kb - 1) M hp ls [(3, 0)] F' Q))) : EvN kb M pc ls st F Q := by
  intro d hd c s
  cases d with
  | zero => omega
  | succ d =>
    obtain ⟨f, ⟨o1, o2⟩, F', c', s', h1, h2, h3, h4⟩ := K d (by omega) c s
    rcases h4 with ⟨e1, h4⟩ | ⟨e, hp, e1, e2, e3, e4, h4⟩
    · dsimp only at e1
      subst e1
      obtain ⟨f2, o, F2, c2, s2, k1, k2, k3, k4⟩ := h4 (d + 1) hd c' s'
      have w0 : m_wt N (0, o2) = 0 := by
        unfold m_wt
        rw [if_pos ⟨rfl, Or.inl hN⟩]
      rw [w0] at h2 h3
      refine ⟨max f f2 + 1, o, F2, c2, s2, ?_, by omega, by omega, k4⟩
      have e1 := mx_le (Nat.le_max_left f f2) h1
      simp only [mx, ht, hm, e1]
      exact mx_le (Nat.le_max_right f f2) k1
    · dsimp only at e1
      subst e1
      obtain ⟨f2, o, F2, c2, s2, k1, k2, k3, k4⟩ := h4 (d + 1) hd c' s'
      have w1 : m_wt N (e + 1, o2) = 1 := by
        unfold m_wt
        rw [if_neg (fun h => by cases h.1)]
      rw [w1] at h2 h3
      refine ⟨max f f2 + 1, o, F2, c2, s2, ?_, by omega, by omega, k4⟩
      have hz : ¬ (387 ≤ N ∨ ¬ (q.2.2.2 = 0 ∨ q.2.2.2 = 2)) := by omega
      have e1 := mx_le (Nat.le_max_left f f2) h1
      simp only [mx, ht, hm, e1, if_neg hz, e2]
      exact mx_le (Nat.le_max_right f f2) k1
/-- a call of what has a budget of its own, and throws nothing -/
theorem evn_calln {kb ka M N pc : Nat} {i : Instr} {q : LK} {ls : ML} {st xs r : List MV} {F : MF} {Q : Nat × List MV → MF → Prop} (ht : (m_tb M)[pc]? = some (some (i, q)))
    (hm : ∀ c s, mstep i q pc ls st (F, m_KD, c, s) = .error (1, N, xs, r)) (hg : m_hg N < m_hg M)
    (K : EvN ka N 0 (m_ini (m_mls.getD N 0) xs) [] F (fun o F' => o.1 = 0 ∧ EvN kb M (pc + 3) ls (o.2 ++ r) F' Q)) : EvN (ka + kb) M pc ls st F Q := by
  intro d hd c s
  cases d with
  | zero => omega
  | succ d =>
    obtain ⟨f, ⟨o1, o2⟩, F', c', s', h1, h2, h3, e1, h4⟩ := K d (by omega) c s
    dsimp only at e1
    subst e1
    obtain ⟨f2, o, F2, c2, s2, k1, k2, k3, k4⟩ := h4 (d + 1) hd c' s'
    refine ⟨max f f2 + 1, o, F2, c2, s2, ?_, by omega, by omega, k4⟩
    have e1 := mx_le (Nat.le_max_left f f2) h1
    simp only [mx, ht, hm, e1]
    exact mx_le (Nat.le_max_right f f2) k1
section Moa
variable {kb M pc : Nat} {ls l : ML} {st : List MV} {F : MF} {Q : Nat × List MV → MF → Prop} {q : LK} {r : List (Option (Instr × LK))} {x y i v : Int} {n kd sz ci k j nn z : Nat}
theorem n_iconst (hA : At M pc (some (.iconst v, q) :: r))  (K : At M (pc + 1) r → EvN kb M (pc + 1) ls ((0, v) :: st) F Q) : EvN kb M pc ls (st) F Q := evn_ok hA.hd (fun c s => rfl) (K hA.tl)
theorem n_bipush (hA : At M pc (some (.bipush v, q) :: none :: r))  (K : At M (pc + 2) r → EvN kb M (pc + 2) ls ((0, v) :: st) F Q) : EvN kb M pc ls (st) F Q := evn_ok hA.hd (fun c s => rfl) (K hA.tl2)
theorem n_iload (hA : At M pc (some (.iload n, q) :: none :: r)) (hl : ls[n]? = some (some (0, x))) (K : At M (pc + 2) r → EvN kb M (pc + 2) ls ((0, x) :: st) F Q) : EvN kb M pc ls (st) F Q := evn_ok hA.hd (fun c s => by show m_ldi ls _ _ _ _ = _; unfold m_ldi; rw [hl]; rfl) (K hA.tl2)
theorem n_iload_n {z : Fin 4} (hA : At M pc (some (.iload_n z, q) :: r)) (hl : ls[(z : Nat)]? = some (some (0, x))) (K : At M (pc + 1) r → EvN kb M (pc + 1) ls ((0, x) :: st) F Q) : EvN kb M pc ls (st) F Q := evn_ok hA.hd (fun c s => by show m_ldi ls _ _ _ _ = _; unfold m_ldi; rw [hl]; rfl) (K hA.tl)
theorem n_lload (hA : At M pc (some (.lload n, q) :: none :: r)) (hl : ls[n]? = some (some (1, x))) (K : At M (pc + 2) r → EvN kb M (pc + 2) ls ((1, x) :: st) F Q) : EvN kb M pc ls (st) F Q := evn_ok hA.hd (fun c s => by show m_ldl ls _ _ _ _ = _; unfold m_ldl; rw [hl]; rfl) (K hA.tl2)
theorem n_aload {t : Nat} (hA : At M pc (some (.aload n, q) :: none :: r)) (hl : ls[n]? = some (some (t, x))) (h2 : 2 ≤ t) (K : At M (pc + 2) r → EvN kb M (pc + 2) ls ((t, x) :: st) F Q) : EvN kb M pc ls (st) F Q := evn_ok hA.hd (fun c s => by show m_lda ls _ _ _ _ = _; unfold m_lda; rw [hl]; obtain ⟨k, rfl⟩ : ∃ k, t = k + 2 := ⟨t - 2, by omega⟩; rfl) (K hA.tl2)
theorem n_aload_n {t : Nat} {z : Fin 4} (hA : At M pc (some (.aload_n z, q) :: r)) (hl : ls[(z : Nat)]? = some (some (t, x))) (h2 : 2 ≤ t) (K : At M (pc + 1) r → EvN kb M (pc + 1) ls ((t, x) :: st) F Q) : EvN kb M pc ls (st) F Q := evn_ok hA.hd (fun c s => by show m_lda ls _ _ _ _ = _; unfold m_lda; rw [hl]; obtain ⟨k, rfl⟩ : ∃ k, t = k + 2 := ⟨t - 2, by omega⟩; rfl) (K hA.tl)
theorem n_istore (hA : At M pc (some (.istore n, q) :: none :: r)) (l : ML) (hl : m_st ls n (0, x) = some l) (K : At M (pc + 2) r → EvN kb M (pc + 2) l (st) F Q) : EvN kb M pc ls ((0, x) :: st) F Q := evn_ok hA.hd (fun c s => by show m_put _ _ _ _ = _; rw [hl]; rfl) (K hA.tl2)
theorem n_istore_n {z : Fin 4} (hA : At M pc (some (.istore_n z, q) :: r)) (l : ML) (hl : m_st ls (z : Nat) (0, x) = some l) (K : At M (pc + 1) r → EvN kb M (pc + 1) l (st) F Q) : EvN kb M pc ls ((0, x) :: st) F Q := evn_ok hA.hd (fun c s => by show m_put _ _ _ _ = _; rw [hl]; rfl) (K hA.tl)
theorem n_lstore (hA : At M pc (some (.lstore n, q) :: none :: r)) (l : ML) (hl : m_st ls n (1, x) = some l) (K : At M (pc + 2) r → EvN kb M (pc + 2) l (st) F Q) : EvN kb M pc ls ((1, x) :: st) F Q := evn_ok hA.hd (fun c s => by show m_put _ _ _ _ = _; rw [hl]; rfl) (K hA.tl2)
theorem n_astore (hA : At M pc (some (.astore n, q) :: none :: r)) (l : ML) (hk : 2 ≤ k ∧ k ≤ 5) (hl : m_st ls n (k, x) = some l) (K : At M (pc + 2) r → EvN kb M (pc + 2) l (st) F Q) : EvN kb M pc ls ((k, x) :: st) F Q := evn_ok hA.hd (fun c s => by show (if 2 ≤ k ∧ k ≤ 5 then _ else _) = _; rw [if_pos hk]; show m_put _ _ _ _ = _; rw [hl]; rfl) (K hA.tl2)
theorem n_astore_n {z : Fin 4} (hA : At M pc (some (.astore_n z, q) :: r)) (l : ML) (hk : 2 ≤ k ∧ k ≤ 5) (hl : m_st ls (z : Nat) (k, x) = some l) (K : At M (pc + 1) r → EvN kb M (pc + 1) l (st) F Q) : EvN kb M pc ls ((k, x) :: st) F Q := evn_ok hA.hd (fun c s => by show (if 2 ≤ k ∧ k ≤ 5 then _ else _) = _; rw [if_pos hk]; show m_put _ _ _ _ = _; rw [hl]; rfl) (K hA.tl)
theorem n_iadd (hA : At M pc (some (.iadd, q) :: r)) (h : -2147483648 ≤ x + y ∧ x + y < 2147483648) (K : At M (pc + 1) r → EvN kb M (pc + 1) ls ((0, x + y) :: st) F Q) : EvN kb M pc ls ((0, y) :: (0, x) :: st) F Q := evn_ok hA.hd (fun c s => by show Except.ok (pc + 1, ls, (0, w32 (x + y)) :: st, _) = _; rw [w32_id h]) (K hA.tl)
theorem n_isub (hA : At M pc (some (.isub, q) :: r)) (h : -2147483648 ≤ x - y ∧ x - y < 2147483648) (K : At M (pc + 1) r → EvN kb M (pc + 1) ls ((0, x - y) :: st) F Q) : EvN kb M pc ls ((0, y) :: (0, x) :: st) F Q := evn_ok hA.hd (fun c s => by show Except.ok (pc + 1, ls, (0, w32 (x - y)) :: st, _) = _; rw [w32_id h]) (K hA.tl)
theorem n_iand (hA : At M pc (some (.iand, q) :: r))  (K : At M (pc + 1) r → EvN kb M (pc + 1) ls ((0, m_and x y) :: st) F Q) : EvN kb M pc ls ((0, y) :: (0, x) :: st) F Q := evn_ok hA.hd (fun c s => rfl) (K hA.tl)
theorem n_lcmp (hA : At M pc (some (.lcmp, q) :: r))  (K : At M (pc + 1) r → EvN kb M (pc + 1) ls ((0, if x < y then -1 else if x = y then 0 else 1) :: st) F Q) : EvN kb M pc ls ((1, y) :: (1, x) :: st) F Q := evn_ok hA.hd (fun c s => rfl) (K hA.tl)
theorem n_i2l (hA : At M pc (some (.i2l, q) :: r))  (K : At M (pc + 1) r → EvN kb M (pc + 1) ls ((1, x) :: st) F Q) : EvN kb M pc ls ((0, x) :: st) F Q := evn_ok hA.hd (fun c s => rfl) (K hA.tl)
theorem n_i2c_w (hA : At M pc (some (.i2c, q) :: r))  (K : At M (pc + 1) r → EvN kb M (pc + 1) ls ((0, x % 65536) :: st) F Q) : EvN kb M pc ls ((0, x) :: st) F Q := evn_ok hA.hd (fun c s => rfl) (K hA.tl)
theorem n_if_eq {off : Int} {t : Nat} (hA : At M pc (some (.ifCond .eq off, q) :: none :: none :: r)) (ht : (pc : Int) + off = (t : Int)) (J : (x = 0 → EvN kb M t ls st F Q)) (K : (¬ x = 0 → At M (pc + 3) r → EvN kb M (pc + 3) ls st F Q)) : EvN kb M pc ls ((0, x) :: st) F Q := by
  by_cases h : x = 0
  · exact evn_ok hA.hd (fun c s => by show (if x = 0 then m_go pc off ls st _ else Except.ok (pc + 3, ls, st, _)) = _; rw [if_pos h]; exact m_goT ht) (J h)
  · exact evn_ok hA.hd (fun c s => by show (if x = 0 then m_go pc off ls st _ else Except.ok (pc + 3, ls, st, _)) = _; rw [if_neg h]) (K h hA.tl3)
theorem n_if_ne {off : Int} {t : Nat} (hA : At M pc (some (.ifCond .ne off, q) :: none :: none :: r)) (ht : (pc : Int) + off = (t : Int)) (J : (¬ x = 0 → EvN kb M t ls st F Q)) (K : (x = 0 → At M (pc + 3) r → EvN kb M (pc + 3) ls st F Q)) : EvN kb M pc ls ((0, x) :: st) F Q := by
  by_cases h : x = 0
  · exact evn_ok hA.hd (fun c s => by show (if x = 0 then Except.ok (pc + 3, ls, st, _) else m_go pc off ls st _) = _; rw [if_pos h]) (K h hA.tl3)
  · exact evn_ok hA.hd (fun c s => by show (if x = 0 then Except.ok (pc + 3, ls, st, _) else m_go pc off ls st _) = _; rw [if_neg h]; exact m_goT ht) (J h)
theorem n_ic_eq {off : Int} {t : Nat} (hA : At M pc (some (.if_icmp .eq off, q) :: none :: none :: r)) (ht : (pc : Int) + off = (t : Int)) (J : (x = y → EvN kb M t ls st F Q)) (K : (¬ x = y → At M (pc + 3) r → EvN kb M (pc + 3) ls st F Q)) : EvN kb M pc ls ((0, y) :: (0, x) :: st) F Q := by
  by_cases h : x = y
  · exact evn_ok hA.hd (fun c s => by show (if x = y then m_go pc off ls st _ else Except.ok (pc + 3, ls, st, _)) = _; rw [if_pos h]; exact m_goT ht) (J h)
  · exact evn_ok hA.hd (fun c s => by show (if x = y then m_go pc off ls st _ else Except.ok (pc + 3, ls, st, _)) = _; rw [if_neg h]) (K h hA.tl3)
theorem n_ic_gt {off : Int} {t : Nat} (hA : At M pc (some (.if_icmp .gt off, q) :: none :: none :: r)) (ht : (pc : Int) + off = (t : Int)) (J : (y < x → EvN kb M t ls st F Q)) (K : (¬ y < x → At M (pc + 3) r → EvN kb M (pc + 3) ls st F Q)) : EvN kb M pc ls ((0, y) :: (0, x) :: st) F Q := by
  by_cases h : y < x
  · exact evn_ok hA.hd (fun c s => by show (if y < x then m_go pc off ls st _ else Except.ok (pc + 3, ls, st, _)) = _; rw [if_pos h]; exact m_goT ht) (J h)
  · exact evn_ok hA.hd (fun c s => by show (if y < x then m_go pc off ls st _ else Except.ok (pc + 3, ls, st, _)) = _; rw [if_neg h]) (K h hA.tl3)
theorem n_goto {off : Int} {t : Nat} (hA : At M pc (some (.goto off, q) :: r)) (ht : (pc : Int) + off = (t : Int)) (K : EvN kb M t ls st F Q) : EvN kb M pc ls st F Q := evn_ok hA.hd (fun c s => m_goT ht) K
theorem n_laload (v : Int) (hA : At M pc (some (.laload, q) :: r)) (hk : m_KD[n]? = some (101, sz)) (hi : 0 ≤ i ∧ i < (sz : Int)) (hv : F n i.toNat = v) (K : At M (pc + 1) r → EvN kb M (pc + 1) ls ((1, v) :: st) F Q) : EvN kb M pc ls ((0, i) :: m_r n :: st) F Q := evn_ok hA.hd (fun c s => by show (if (m_kind (F, m_KD, c, s) ((n : Nat) : Int)).1 = 101 ∧ 0 ≤ i ∧ i < (m_kind (F, m_KD, c, s) ((n : Nat) : Int)).2 then _ else _) = _; rw [m_kd hk, if_pos ⟨rfl, hi⟩, ← hv]; rfl) (K hA.tl)
theorem n_lastore (hA : At M pc (some (.lastore, q) :: r)) (hk : m_KD[n]? = some (101, sz)) (hi : 0 ≤ i ∧ i < (sz : Int)) (K : At M (pc + 1) r → EvN kb M (pc + 1) ls st (m_up F n i.toNat x) Q) : EvN kb M pc ls ((1, x) :: (0, i) :: m_r n :: st) F Q := evn_ok hA.hd (fun c s => by show (if (m_kind (F, m_KD, c, s) ((n : Nat) : Int)).1 = 101 ∧ 0 ≤ i ∧ i < (m_kind (F, m_KD, c, s) ((n : Nat) : Int)).2 ∧ m_fit 1 (1, x) = true then _ else _) = _; rw [m_kd hk, if_pos ⟨rfl, hi.1, hi.2, rfl⟩]; rfl) (K hA.tl)
theorem n_iret (hA : At M pc (some (.ireturn, (n, k, ci, kd)) :: r)) (hf : m_fit n (0, x) = true) (K : Q (0, [(0, x)]) F) : EvN kb M pc ls [(0, x)] F Q := evn_ret hA.hd (fun c s => by show (if m_fit n (0, x) = true ∨ (n = 5 ∧ x = 0) then _ else _) = _; rw [if_pos (Or.inl hf)]) K
theorem n_iinc {m : Int} (hA : At M pc (some (.iinc n m, q) :: none :: none :: r)) (l : ML) (hl : ls[n]? = some (some (0, x))) (hs : m_st ls n (0, w32 (x + m)) = some l) (K : At M (pc + 3) r → EvN kb M (pc + 3) l st F Q) : EvN kb M pc ls st F Q := evn_ok hA.hd (fun c s => by
  show (match ls[n]? with | some (some (0, x)) => m_put (m_st ls n (0, w32 (x + m))) (pc + 3) st _ | _ => m_ko) = _
  rw [hl]
  show m_put (m_st ls n (0, w32 (x + m))) (pc + 3) st _ = _
  rw [hs]
  rfl) (K hA.tl3)
theorem n_slen {w : Int} (hA : At M pc (some (.arraylength, q) :: r)) (K : At M (pc + 1) r → EvN kb M (pc + 1) ls ((0, F 1000001 0) :: st) F Q) : EvN kb M pc ls ((6, w) :: st) F Q := evn_ok hA.hd (fun c s => rfl) (K hA.tl)
theorem n_sld {w : Int} (v : Int) (hA : At M pc (some (.iaload, q) :: r)) (hi : 0 ≤ i ∧ i < F 1000001 0) (hv : F 1000000 i.toNat = v) (K : At M (pc + 1) r → EvN kb M (pc + 1) ls ((0, v) :: st) F Q) : EvN kb M pc ls ((0, i) :: (6, w) :: st) F Q := evn_ok hA.hd (fun c s => by
  show (if 0 ≤ i ∧ i < F 1000001 0 then Except.ok (pc + 1, ls, (0, F 1000000 i.toNat) :: st, _) else m_ko) = _
  rw [if_pos hi, hv]) (K hA.tl)
theorem n_tsw {d lo hi : Int} {offs : Array Int} {t : Nat} (hA : At M pc (some (.tableswitch d lo hi offs, q) :: r)) (hv : ∀ h : MH, (if x < lo ∨ hi < x then m_go pc d ls st h else (match offs.toList[(x - lo).toNat]? with | some o => m_go pc o ls st h | none => m_ko)) = .ok (t, ls, st, h)) (K : EvN kb M t ls st F Q) : EvN kb M pc ls ((0, x) :: st) F Q :=
  evn_ok hA.hd (fun c s => hv _) K
end Moa
