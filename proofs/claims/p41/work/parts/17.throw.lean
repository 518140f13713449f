/-! A THROW OF A METHOD'S OWN; CALLS BY THEIR KINDS -/
theorem m_rep.kept {D : va_G} {A : Nat → Prop} {ads : List Nat} {s : State} {h h2 : MH} {H H1 : Heap} (hr : m_rep D A ads s h H) (hq : ∀ q : Nat, q < H.size → H1[q]? = H[q]?) (e1 : h2.1 = h.1) (e2 : h2.2.1 = h.2.1) : m_rep D A ads s h2 H1 := by
  obtain ⟨ws, tys, hK, hP, hD, hads, hlen, hall⟩ := hr
  refine ⟨ws, tys, hK, fun k q hk => ?_, hD, hads, by rw [e2]; exact hlen, by rw [e1, e2]; exact hall⟩
  have h9 := hP k q hk
  exact h9.kept (hq _ h9.lt)
section M17
variable {p : Program} {l : Launch} {e : Jvm.Env} {R : Room} {s : State} {m : MethodId} {args : Array Value} {below : List Frame} {meth : Method} {c : Code} {Q : State → Prop} {c0 s0 : Nat} {D : va_G} {A : Nat → Prop} {z : m_Z} {ads : List Nat} {q : LK} {pc pc' M : Nat} {ls ls' : ML} {st st' : List MV} {h h' : MH} {rls : Array Slot} {rst : List Value} {H : Heap} {locs : List Loc} {nL : Nat}
set_option maxHeartbeats 4000000 in
theorem m_throws {i : Instr} {x : Nat} {xs r : List MV} {ads0 : List Nat} (CX : m_CX p l s m args meth c A z M) (h420 : M ≠ 420) (hraw : m_raw M = []) (hck : m_ick M pc i q = true) (hl : m_lr (ads0 ++ ads) z (m_mls.getD M 0) ls rls) (hs : m_vrs (ads0 ++ ads) z st rst) (hr : m_rep D A (ads0 ++ ads) s h H) (hS : va_S A s.heap H locs)
    (hc0 : c0 ≤ h.2.2.1) (hs0 : s0 ≤ h.2.2.2) (hRc : h.2.2.1 + 1 - c0 ≤ R.cells) (hRs : h.2.2.2 + 6 - s0 ≤ R.slots) (hRf : 10 ≤ R.frames) (hRl : 300 ≤ R.locals)
    (hm : mstep i q pc ls st h = .error (3, x, xs, r)) :
    W p l e R s m args below meth c H locs (h.2.2.1 - c0) (h.2.2.2 - s0) (vx_MQ below (fun _ _ _ _ => False) (m_Xc D A ads0 x (m_thr h)) args s (h.2.2.1 + 1 - c0) (h.2.2.2 + 6 - s0) A) (F0 m pc rls rst) := by
  obtain ⟨hx, hb, hml, hown, hts, hE, hlocks, -, htab0, hret, hst⟩ := CX
  have htab := htab0 h420
  clear htab0
  unfold m_ick at hck
  rw [Bool.and_eq_true] at hck
  obtain ⟨hdc, hsp⟩ := hck
  cases i with
  | new idx =>
    unfold mstep at hm
    dsimp only at hm
    split at hm
    · cases hm
    · next h50 =>
      split at hm
      · next h200 =>
        generalize hg : q.1 - 200 = y at hm
        cases hm
        subst hg
        obtain ⟨h2, hcat⟩ := h200
        unfold m_spc at hsp
        dsimp only at hsp
        have hnone : m_cl[q.1]? = none := List.getElem?_eq_none (by show 12 ≤ q.1; omega)
        rw [hnone] at hsp
        dsimp only at hsp
        have hlt : decide (q.1 < 200) = false := decide_eq_false (by omega)
        rw [hlt, Bool.and_false, Bool.false_or] at hsp
        simp only [Bool.and_eq_true, decide_eq_true_iff] at hsp
        obtain ⟨-, h203, hcls, hlk, hd3, hd4, hd7⟩ := hsp
        have hx3 : q.1 - 200 < 3 := by omega
        obtain ⟨hini, -, -, hfit⟩ := m_exw (q.1 - 200) hx3
        have hat := m_at0 hx3
        rw [hcls] at hown hlk
        have hout : ∀ y ∈ c.exceptionTable.toList, covers y (pc + 7) = false := by
          rw [htab, hraw]
          intro y hy
          cases hy
        have hwat : ∀ w ∈ vx_at0 "Syntaxspan" (m_ics.getD (q.1 - 200) 0) (m_exn (q.1 - 200)) m_chain, w.before args s = true := by
          intro w hw
          have h9 := hat w hw
          unfold m_atOk at h9
          simp only [Bool.and_eq_true, Bool.or_eq_true, decide_eq_true_iff] at h9
          obtain ⟨h9, h10, h11⟩ := h9
          rcases h9 with h9 | h9
          · exact hts w h11 h9
          · have h12 := hE.1 w h11 h9
            unfold m_nest at h9
            split at h9
            · exact va_Nw.use rfl h12
            · exact va_Nw.use rfl h12
            · exact va_Nw.use rfl h12
            · exact va_Nw.use rfl h12
            · exact h12
            · cases h9
        have hood : ∀ w ∈ Cond.classLink "Syntaxspan" idx (m_exn (q.1 - 200)) :: Cond.initialized (m_exn (q.1 - 200)) :: vx_at0 "Syntaxspan" (m_ics.getD (q.1 - 200) 0) (m_exn (q.1 - 200)) m_chain, vx_ot w = true := by
          intro w hw
          rcases List.mem_cons.mp hw with rfl | hw
          · unfold vx_ot
            rw [(m_has_ok hlk).2, Bool.or_true]
          · rcases List.mem_cons.mp hw with rfl | hw
            · unfold vx_ot
              rw [hini.2, Bool.or_true]
            · have h9 := hat w hw
              unfold m_atOk at h9
              simp only [Bool.and_eq_true] at h9
              exact h9.2.1
        obtain ⟨-, -, -, -, hU, hN, -⟩ := hE.2.1
        refine vx_throw0 (names := m_chain) (A := A) hx hb hst hown hfit m_chainfit (hts _ (m_has_ok hlk).1 (m_has_ok hlk).2) (hts _ hini.1 hini.2) hwat hood hU hN hS (hl.2.1.trans hml.symm) (m_dcd_ok hdc rfl) (m_dcd_ok hd3 rfl) (m_dcd_ok hd4 rfl) (m_dcd_ok hd7 rfl) hout ?_ ?_ (by omega) (by omega) hlocks ?_ hS.2.2 (by omega) (by omega)
        · show 2 + 3 < _
          omega
        · rw [m_cats_of hs]
          show _ + (13 * (2 + 1) + 42) ≤ _
          omega
        · intro t hal hsz hk
          refine ⟨rfl, ads, (hr.moved hal).kept hk rfl rfl, Nat.le_trans hS.1 hsz, fun q9 h1 h3 => ?_⟩
          rw [hk q9 (Nat.lt_of_lt_of_le h1 hS.1)]
          exact hS.2.1 q9 h1 h3
      · cases hm
  | _ =>
    exfalso
    simp only [mstep, m_go, m_put, m_ldi, m_ldl, m_lda, m_stv, m_i2, m_l2, m_get, m_of, m_putf, m_aast, m_aald, m_alen, m_ascr, m_atc, m_ald, m_ast, m_mkarr, m_copy, m_call, m_iret, m_ko] at hm
    repeat' (split at hm)
    all_goals cases hm
/-- a call: what the small machine has looked at -/
theorem m_call_inv {i : Instr} {N : Nat} {xs r : List MV} (hm : mstep i q pc ls st h = .error (1, N, xs, r)) :
    N = q.1 ∧ q.2.1 ≤ st.length ∧ m_cats r ≤ 8 ∧ m_cats xs ≤ m_mls.getD N 0 ∧ xs = (st.take q.2.1).reverse ∧ r = st.drop q.2.1 ∧
    ((∃ idx, i = .invokespecial idx ∧ (q.2.2.2 = 4 ∨ q.2.2.2 = 5) ∧ m_recv h (m_own q.1) q.2.1 st = true) ∨ (∃ idx, i = .invokevirtual idx ∧ (q.2.2.2 = 2 ∨ q.2.2.2 = 3) ∧ m_recv h (m_own q.1) q.2.1 st = true) ∨ ∃ idx, i = .invokestatic idx ∧ (q.2.2.2 = 0 ∨ q.2.2.2 = 1 ∨ q.2.2.2 = 7)) := by
  have hrev : ∀ l : List MV, m_cats l.reverse = m_cats l := fun l => by unfold m_cats; rw [List.map_reverse, List.sum_reverse]
  have key : ∀ {P : Prop}, m_call q.1 q.2.1 st = .error (1, N, xs, r) → P → N = q.1 ∧ q.2.1 ≤ st.length ∧ m_cats r ≤ 8 ∧ m_cats xs ≤ m_mls.getD N 0 ∧ xs = (st.take q.2.1).reverse ∧ r = st.drop q.2.1 ∧ P := by
    intro P hc hp
    unfold m_call at hc
    split at hc
    · next h9 =>
      cases hc
      exact ⟨rfl, h9.1, h9.2.1, by rw [hrev]; exact h9.2.2, rfl, rfl, hp⟩
    · cases hc
  cases i with
  | invokespecial idx =>
    unfold mstep at hm
    dsimp only at hm
    split at hm
    · split at hm
      · split at hm <;> cases hm
      · cases hm
    · split at hm
      · next h4 =>
        split at hm
        · next hr => exact key hm (Or.inl ⟨idx, rfl, h4, hr⟩)
        · cases hm
      · cases hm
  | invokevirtual idx =>
    unfold mstep at hm
    dsimp only at hm
    split at hm
    · next h4 =>
      split at hm
      · next hr => exact key hm (Or.inr (Or.inl ⟨idx, rfl, h4, hr⟩))
      · cases hm
    · cases hm
  | invokestatic idx =>
    unfold mstep at hm
    dsimp only at hm
    split at hm
    · unfold m_copy at hm
      split at hm
      · split at hm <;> cases hm
      · cases hm
    · split at hm
      · next h4 => exact key hm (Or.inr (Or.inr ⟨idx, rfl, h4⟩))
      · cases hm
  | _ =>
    exfalso
    simp only [mstep, m_go, m_put, m_ldi, m_ldl, m_lda, m_stv, m_i2, m_l2, m_get, m_of, m_putf, m_aast, m_aald, m_alen, m_ascr, m_atc, m_ald, m_ast, m_mkarr, m_iret, m_ko] at hm
    repeat' (split at hm)
    all_goals cases hm
end M17
