/-! BEGINNINGS AND ENDS OF METHODS -/
theorem m_cats_ln : ∀ xs : List MV, (xs.flatMap fun v => if v.1 = 1 then [some v, none] else [some v]).length = m_cats xs
  | [] => rfl
  | v :: xs => by
    rw [List.flatMap_cons, List.length_append, m_cats_ln xs]
    unfold m_cats
    rw [List.map_cons, List.sum_cons]
    unfold m_cat
    split <;> rfl
theorem m_ini_at {ads : List Nat} {z : m_Z} : ∀ {xs : List MV} {rs : List Value}, m_vrs ads z xs rs → (lg_sl rs).length = (xs.flatMap fun v => if v.1 = 1 then [some v, none] else [some v]).length ∧
    ∀ (i : Nat) (v : MV), (xs.flatMap fun v => if v.1 = 1 then [some v, none] else [some v])[i]? = some (some v) → ∃ r : Value, (lg_sl rs)[i]? = some (.val r) ∧ m_vr ads z v r
  | [], [], _ => ⟨rfl, fun i v h => by simp at h⟩
  | x :: xs, r :: rs, h => by
    obtain ⟨h1, h2⟩ := m_ini_at h.2
    have hc := m_cat_of h.1
    have e1 : lg_sl (r :: rs) = (if r.category = 2 then [.val r, .second] else [.val r]) ++ lg_sl rs := rfl
    rw [e1, List.flatMap_cons]
    unfold m_cat at hc
    by_cases hx : x.1 = 1
    · rw [if_pos hx] at hc
      rw [if_pos hc, if_pos hx]
      refine ⟨by rw [List.length_append, List.length_append, h1]; rfl, fun i v hv => ?_⟩
      match i, hv with
      | 0, hv =>
        cases hv
        exact ⟨r, rfl, h.1⟩
      | 1, hv => cases hv
      | i + 2, hv => exact h2 i v hv
    · rw [if_neg hx] at hc
      rw [if_neg (by omega), if_neg hx]
      refine ⟨by rw [List.length_append, List.length_append, h1]; rfl, fun i v hv => ?_⟩
      match i, hv with
      | 0, hv =>
        cases hv
        exact ⟨r, rfl, h.1⟩
      | i + 1, hv => exact h2 i v hv
theorem m_ini_lr {ads : List Nat} {z : m_Z} {n : Nat} {xs : List MV} {rs : List Value} (h : m_vrs ads z xs rs) (hn : m_cats xs ≤ n) : m_lr ads z n (m_ini n xs) ((lg_sl rs ++ List.replicate (n - (lg_sl rs).length) Slot.unset).toArray) := by
  obtain ⟨h1, h2⟩ := m_ini_at h
  have hln : (lg_sl rs).length ≤ n := by rw [h1, m_cats_ln]; exact hn
  obtain ⟨e1, e2, -⟩ := lv_entry rs hln
  refine ⟨?_, e1, e2, fun i v hv => ?_⟩
  · unfold m_ini
    rw [List.length_append, List.length_replicate, m_cats_ln]
    omega
  · unfold m_ini at hv
    by_cases hi : i < (xs.flatMap fun v => if v.1 = 1 then [some v, none] else [some v]).length
    · rw [List.getElem?_append_left hi] at hv
      obtain ⟨r, hr, hvr⟩ := h2 i v hv
      refine ⟨r, ?_, hvr⟩
      rw [List.getElem?_toArray, List.getElem?_append_left (by rw [h1]; exact hi)]
      exact hr
    · rw [List.getElem?_append_right (by omega)] at hv
      have := List.mem_replicate.mp (List.mem_of_getElem? hv)
      cases this.2
theorem m_K.up {p : Program} {l : Launch} {e : Jvm.Env} {R : Room} {s : State} {m : MethodId} {args : Array Value} {below : List Frame} {meth : Method} {c : Code} {Q : State → Prop} {nL c0 s0 : Nat} {D : va_G} {A : Nat → Prop} {z : m_Z} {ads : List Nat} {pc : Nat} {ls : ML} {st : List MV} {h : MH} (b : List Nat) (K : m_K p l e R s m args below meth c Q nL c0 s0 D A z ads pc ls st h) : m_K p l e R s m args below meth c Q nL c0 s0 D A z (ads ++ b) pc ls st h := by
  intro b2 rls rst H locs hl hs hr hS
  rw [List.append_assoc] at hl hs hr
  exact K (b ++ b2) rls rst H locs hl hs hr hS
theorem m_KX.up {p : Program} {l : Launch} {e : Jvm.Env} {R : Room} {s : State} {m : MethodId} {args : Array Value} {below : List Frame} {meth : Method} {c : Code} {Q : State → Prop} {nL c0 s0 : Nat} {D : va_G} {A : Nat → Prop} {z : m_Z} {ads : List Nat} {pc : Nat} {ls : ML} {x : Nat} {h : MH} (b : List Nat) (K : m_KX p l e R s m args below meth c Q nL c0 s0 D A z ads pc ls x h) : m_KX p l e R s m args below meth c Q nL c0 s0 D A z (ads ++ b) pc ls x h := by
  intro b2 rls rst H locs q ce hl hr hS
  rw [List.append_assoc] at hl hr
  exact K (b ++ b2) rls rst H locs q ce hl hr hS
/-- a place at which a method ends: with a return, or with a throw of its own -/
def m_leaf (M pc : Nat) (ls : ML) (st : List MV) (h1 : MH) (o : Nat × List MV) (h' : MH) : Prop := ∃ (i : Instr) (q : LK), (m_tb M)[pc]? = some (some (i, q)) ∧
  ((∃ (a : Nat) (xs r : List MV), mstep i q pc ls st h1 = .error (2, a, xs, r) ∧ o = (0, xs) ∧ h' = h1) ∨ ∃ (x : Nat) (xs r : List MV), mstep i q pc ls st h1 = .error (3, x, xs, r) ∧ o = (x + 1, []) ∧ h' = m_thr h1)
section M16
variable {p : Program} {l : Launch} {e : Jvm.Env} {R : Room} {s : State} {m : MethodId} {args : Array Value} {below : List Frame} {meth : Method} {c : Code} {Q : State → Prop} {c0 s0 : Nat} {D : va_G} {A : Nat → Prop} {z : m_Z} {ads : List Nat} {q : LK} {pc pc' M : Nat} {ls ls' : ML} {st st' : List MV} {h h' : MH} {rls : Array Slot} {rst : List Value} {H : Heap} {locs : List Loc} {nL : Nat}
theorem m_F {U : State} (hS : va_S A s.heap H locs) (hU : U.heap = H) : va_F A s U := ⟨by rw [hU]; exact hS.1, fun q h1 h2 => by rw [hU]; exact hS.2.1 q h1 h2⟩
set_option maxHeartbeats 4000000 in
/-- a return: what the method owes -/
theorem m_rets {i : Instr} {a0 : Nat} {xs r : List MV} {ads0 : List Nat} (CX : m_CX p l s m args meth c A z M) (hck : m_ick M pc i q = true) (hs : m_vrs (ads0 ++ ads) z st rst) (hr : m_rep D A (ads0 ++ ads) s h H) (hS : va_S A s.heap H locs)
    (hm : mstep i q pc ls st h = .error (2, a0, xs, r)) :
    W p l e R s m args below meth c H locs (h.2.2.1 - c0) (h.2.2.2 - s0) (MQ below (m_Qc D A z ads0 xs h) args s (h.2.2.1 - c0) (h.2.2.2 - s0) A) (F0 m pc rls rst) := by
  obtain ⟨hx, hb, hml, hown, hts, hE, hlocks, -, -, hret, hst⟩ := CX
  unfold m_ick at hck
  rw [Bool.and_eq_true] at hck
  obtain ⟨hdc, hsp⟩ := hck
  have hq : ∀ (v : Option Value), m_vrs (ads0 ++ ads) z xs v.toList → ∀ t : State, t.heap = H → s.WarmedH t.vm → m_Qc D A z ads0 xs h args s (.returned v) t := by
    intro v hv t ht hW
    exact ⟨ads, v, rfl, hv, by rw [ht]; exact hr.moved hW.alike, m_F hS ht⟩
  cases i with
  | ireturn =>
    unfold mstep m_iret at hm
    dsimp only at hm
    split at hm
    · next x =>
      split at hm
      · next hf =>
        cases hm
        obtain ⟨X, rr, rfl, hX, hs2⟩ := m_s0 hs
        have hrr : rr = [] := by
          cases rr with
          | nil => rfl
          | cons _ _ => exact hs2.elim
        subst hrr
        unfold m_spc at hsp
        dsimp only at hsp
        have hfin := hq (some (.int X)) ⟨m_i0 hX, trivial⟩
        have hd := m_dcd_ok hdc rfl
        split at hsp
        · next e9 =>
          exact W.iret hx hb (hret.trans e9) hfin hS.2.2 hd hlocks
        · next e9 =>
          rw [beq_iff_eq] at hsp
          have hf := hf.resolve_right (by omega)
          rw [hsp] at hf
          unfold m_fit at hf
          simp at hf
          exact W.zret hx hb (hret.trans e9) (m_nar_bool (by rw [hX]; exact hf)) hfin hS.2.2 hd hlocks
        · next e9 =>
          rw [beq_iff_eq] at hsp
          have hf := hf.resolve_right (by omega)
          rw [hsp] at hf
          unfold m_fit at hf
          simp at hf
          exact W.zret hx hb (hret.trans e9) (m_nar_char (by rw [hX]; exact hf.1) (by rw [hX]; exact hf.2)) hfin hS.2.2 hd hlocks
        · next e9 =>
          rw [beq_iff_eq] at hsp
          have hf : q.1 = 5 ∧ x = 0 := by
            rcases hf with hf | hf
            · rw [hsp] at hf
              unfold m_fit at hf
              cases hf
            · exact hf
          have hX0 : X = 0 := Int32.toInt_inj.mp (hX.trans hf.2)
          subst hX0
          exact W.zret hx hb (hret.trans e9) rfl hfin hS.2.2 hd hlocks
        · next e9 =>
          rw [decide_eq_true_iff] at hsp
          exfalso
          have hf := hf.resolve_right (by omega)
          unfold m_fit at hf
          split at hf
          · omega
          · omega
          · omega
          · omega
          · omega
          · cases hf
      · cases hm
    · cases hm
  | lreturn =>
    unfold mstep at hm
    dsimp only at hm
    split at hm
    · next x =>
      cases hm
      obtain ⟨X, rr, rfl, hX, hs2⟩ := m_s1 hs
      have hrr : rr = [] := by
        cases rr with
        | nil => rfl
        | cons _ _ => exact hs2.elim
      subst hrr
      have h9 : m_ret M = some .long := of_decide_eq_true hsp
      exact W.lret hx hb (hret.trans h9) (hq (some (.long X)) ⟨m_i1 hX, trivial⟩) hS.2.2 (m_dcd_ok hdc rfl) hlocks
    · cases hm
  | areturn =>
    have hty : ∃ rt, m_ret M = some rt ∧ ((∃ n, rt = .object n) ∨ ∃ t, rt = .array t) := by
      unfold m_spc at hsp
      dsimp only at hsp
      split at hsp
      · next n e9 => exact ⟨_, e9, Or.inl ⟨n, rfl⟩⟩
      · next n e9 => exact ⟨_, e9, Or.inr ⟨n, rfl⟩⟩
      · cases hsp
    obtain ⟨rt, hrt, hrt2⟩ := hty
    unfold mstep at hm
    dsimp only at hm
    split at hm
    · next x =>
      cases hm
      have hs0 := hs
      obtain ⟨ad, rr, rfl, h0, had, hs2⟩ := m_s2 hs
      have hrr : rr = [] := by
        cases rr with
        | nil => rfl
        | cons _ _ => exact hs2.elim
      subst hrr
      exact W.aret hx hb (hret.trans hrt) hrt2 (Or.inr ⟨_, rfl⟩) (hq (some (.ref ad)) hs0) hS.2.2 (m_dcd_ok hdc rfl) hlocks
    · next x =>
      cases hm
      have hs0 := hs
      obtain ⟨rr, rfl, h0, h1, hs2⟩ := m_s5 hs
      have hrr : rr = [] := by
        cases rr with
        | nil => rfl
        | cons _ _ => exact hs2.elim
      subst hrr
      exact W.aret hx hb (hret.trans hrt) hrt2 (Or.inr ⟨_, rfl⟩) (hq (some (.ref _)) hs0) hS.2.2 (m_dcd_ok hdc rfl) hlocks
    · cases hm
  | return_ =>
    unfold mstep at hm
    dsimp only at hm
    split at hm
    · cases hm
      have h9 : m_ret M = none := of_decide_eq_true hsp
      have hrr : rst = [] := by
        cases rst with
        | nil => rfl
        | cons _ _ => exact hs.elim
      subst hrr
      exact W.vret hx hb (hret.trans h9) (hq none trivial) hS.2.2 (m_dcd_ok hdc rfl) hlocks
    · cases hm
  | _ =>
    exfalso
    simp only [mstep, m_go, m_put, m_ldi, m_ldl, m_lda, m_stv, m_i2, m_l2, m_get, m_of, m_putf, m_aast, m_aald, m_alen, m_ascr, m_atc, m_ald, m_ast, m_mkarr, m_copy, m_call, m_ko] at hm
    repeat' (split at hm)
    all_goals cases hm
end M16
