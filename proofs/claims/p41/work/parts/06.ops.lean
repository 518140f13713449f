/-! THE SMALL MACHINE'S INSTRUCTIONS OVER THE MACHINE: what doesn't touch cells -/
def m_K (p : Program) (l : Launch) (e : Jvm.Env) (R : Room) (s : State) (m : MethodId) (args : Array Value) (below : List Frame) (meth : Method) (c : Code) (Q : State → Prop) (nL c0 s0 : Nat) (D : va_G) (A : Nat → Prop) (z : m_Z) (ads : List Nat) (pc : Nat) (ls : ML) (st : List MV) (h : MH) : Prop :=
  ∀ (b : List Nat) (rls : Array Slot) (rst : List Value) (H : Heap) (locs : List Loc), m_lr (ads ++ b) z nL ls rls → m_vrs (ads ++ b) z st rst → m_rep D A (ads ++ b) s h H → va_S A s.heap H locs → W p l e R s m args below meth c H locs (h.2.2.1 - c0) (h.2.2.2 - s0) Q (F0 m pc rls rst)
section M5
variable {p : Program} {l : Launch} {e : Jvm.Env} {R : Room} {s : State} {m : MethodId} {args : Array Value} {below : List Frame} {meth : Method} {c : Code} {Q : State → Prop} {cc : ByteArray} {own : String} {nL c0 s0 : Nat} {D : va_G} {A : Nat → Prop} {z : m_Z} {ads : List Nat} {q : LK} {pc pc' : Nat} {ls ls' : ML} {st st' : List MV} {h h' : MH} {rls : Array Slot} {rst : List Value} {H : Heap} {locs : List Loc}
theorem m_k0 (K : m_K p l e R s m args below meth c Q nL c0 s0 D A z ads pc ls st h) (hl : m_lr ads z nL ls rls) (hs : m_vrs ads z st rst) (hr : m_rep D A ads s h H) (hS : va_S A s.heap H locs) : W p l e R s m args below meth c H locs (h.2.2.1 - c0) (h.2.2.2 - s0) Q (F0 m pc rls rst) :=
  K [] rls rst H locs (by rw [List.append_nil]; exact hl) (by rw [List.append_nil]; exact hs) (by rw [List.append_nil]; exact hr) hS
theorem m_s0 {x : Int} {r : List MV} (h : m_vrs ads z ((0, x) :: r) rst) : ∃ (X : Int32) (rr : List Value), rst = .int X :: rr ∧ X.toInt = x ∧ m_vrs ads z r rr := by
  match rst, h with
  | _ :: rr, ⟨⟨X, e1, e2⟩, h2⟩ => exact ⟨X, rr, by rw [e1], e2, h2⟩
theorem m_s1 {x : Int} {r : List MV} (h : m_vrs ads z ((1, x) :: r) rst) : ∃ (X : Int64) (rr : List Value), rst = .long X :: rr ∧ X.toInt = x ∧ m_vrs ads z r rr := by
  match rst, h with
  | _ :: rr, ⟨⟨X, e1, e2⟩, h2⟩ => exact ⟨X, rr, by rw [e1], e2, h2⟩
theorem m_s2 {x : Int} {r : List MV} (h : m_vrs ads z ((2, x) :: r) rst) : ∃ (a : Nat) (rr : List Value), rst = .ref a :: rr ∧ 0 ≤ x ∧ ads[x.toNat]? = some a ∧ m_vrs ads z r rr := by
  match rst, h with
  | _ :: rr, ⟨⟨e0, a, e1, e2⟩, h2⟩ => exact ⟨a, rr, by rw [e2], e0, e1, h2⟩
theorem m_s4 {x : Int} {r : List MV} (h : m_vrs ads z ((4, x) :: r) rst) : ∃ (rr : List Value), rst = .ref (z.1 x.toNat) :: rr ∧ 0 ≤ x ∧ x < 34 ∧ m_vrs ads z r rr := by
  match rst, h with
  | _ :: rr, ⟨⟨e0, e1, e2⟩, h2⟩ => exact ⟨rr, by rw [e2], e0, e1, h2⟩
theorem m_s5 {x : Int} {r : List MV} (h : m_vrs ads z ((5, x) :: r) rst) : ∃ (rr : List Value), rst = .ref (z.2.1 x.toNat) :: rr ∧ 0 ≤ x ∧ x < 29 ∧ m_vrs ads z r rr := by
  match rst, h with
  | _ :: rr, ⟨⟨e0, e1, e2⟩, h2⟩ => exact ⟨rr, by rw [e2], e0, e1, h2⟩
theorem m_s6 {x : Int} {r : List MV} (h : m_vrs ads z ((6, x) :: r) rst) : ∃ (rr : List Value), rst = .ref z.2.2.1 :: rr ∧ m_vrs ads z r rr := by
  match rst, h with
  | _ :: rr, ⟨e2, h2⟩ => exact ⟨rr, by rw [show _ = _ from e2], h2⟩
theorem m_sv {v : MV} {r : List MV} (h : m_vrs ads z (v :: r) rst) : ∃ (X : Value) (rr : List Value), rst = X :: rr ∧ m_vr ads z v X ∧ m_vrs ads z r rr := by
  match rst, h with
  | X :: rr, ⟨h1, h2⟩ => exact ⟨X, rr, rfl, h1, h2⟩
theorem m_ref {t : Nat} {x : Int} {r : Value} (h : m_vr ads z (t + 2, x) r) : r = .null ∨ ∃ a : Nat, r = .ref a := by
  match t, h with
  | 0, ⟨_, a, _, h2⟩ => exact Or.inr ⟨a, h2⟩
  | 1, h => exact h
  | 2, ⟨_, _, h2⟩ => exact Or.inr ⟨_, h2⟩
  | 3, ⟨_, _, h2⟩ => exact Or.inr ⟨_, h2⟩
  | 4, h2 => exact Or.inr ⟨_, h2⟩
theorem m_i0 {y : Int32} {x : Int} (h : y.toInt = x) : m_vr ads z (0, x) (.int y) := ⟨y, rfl, h⟩
theorem m_i1 {y : Int64} {x : Int} (h : y.toInt = x) : m_vr ads z (1, x) (.long y) := ⟨y, rfl, h⟩

theorem o_iconst {v : Int} (hx : p.tables.exec = Jvm.exec) (hb : c.code = cc) (hl : m_lr ads z nL ls rls) (hs : m_vrs ads z st rst) (hr : m_rep D A ads s h H) (hS : va_S A s.heap H locs) (hd : decode cc pc = .ok (.iconst v, 1)) (hv : -2147483648 ≤ v ∧ v < 2147483648) (hm : mstep (.iconst v) q pc ls st h = .ok (pc', ls', st', h')) (K : m_K p l e R s m args below meth c Q nL c0 s0 D A z ads pc' ls' st' h') : W p l e R s m args below meth c H locs (h.2.2.1 - c0) (h.2.2.2 - s0) Q (F0 m pc rls rst) := by
  unfold mstep at hm
  dsimp only at hm
  cases hm
  refine lv_iconst hx hb hd rfl ?_
  exact m_k0 K hl ⟨m_i0 (m_ofInt hv.1 hv.2), hs⟩ hr hS

theorem o_bipush {v : Int} (hx : p.tables.exec = Jvm.exec) (hb : c.code = cc) (hl : m_lr ads z nL ls rls) (hs : m_vrs ads z st rst) (hr : m_rep D A ads s h H) (hS : va_S A s.heap H locs) (hd : decode cc pc = .ok (.bipush v, 2)) (hv : -128 ≤ v ∧ v < 128) (hm : mstep (.bipush v) q pc ls st h = .ok (pc', ls', st', h')) (K : m_K p l e R s m args below meth c Q nL c0 s0 D A z ads pc' ls' st' h') : W p l e R s m args below meth c H locs (h.2.2.1 - c0) (h.2.2.2 - s0) Q (F0 m pc rls rst) := by
  unfold mstep at hm
  dsimp only at hm
  cases hm
  refine lv_bipush hx hb hd rfl ?_
  exact m_k0 K hl ⟨m_i0 (m_ofInt8 hv.1 hv.2), hs⟩ hr hS

theorem o_sipush {v : Int} (hx : p.tables.exec = Jvm.exec) (hb : c.code = cc) (hl : m_lr ads z nL ls rls) (hs : m_vrs ads z st rst) (hr : m_rep D A ads s h H) (hS : va_S A s.heap H locs) (hd : decode cc pc = .ok (.sipush v, 3)) (hv : -32768 ≤ v ∧ v < 32768) (hm : mstep (.sipush v) q pc ls st h = .ok (pc', ls', st', h')) (K : m_K p l e R s m args below meth c Q nL c0 s0 D A z ads pc' ls' st' h') : W p l e R s m args below meth c H locs (h.2.2.1 - c0) (h.2.2.2 - s0) Q (F0 m pc rls rst) := by
  unfold mstep at hm
  dsimp only at hm
  cases hm
  refine lv_sipush hx hb hd rfl ?_
  exact m_k0 K hl ⟨m_i0 (m_ofInt16 hv.1 hv.2), hs⟩ hr hS

theorem o_lconst {v : Fin 2} (hx : p.tables.exec = Jvm.exec) (hb : c.code = cc) (hl : m_lr ads z nL ls rls) (hs : m_vrs ads z st rst) (hr : m_rep D A ads s h H) (hS : va_S A s.heap H locs) (hd : decode cc pc = .ok (.lconst v, 1))  (hm : mstep (.lconst v) q pc ls st h = .ok (pc', ls', st', h')) (K : m_K p l e R s m args below meth c Q nL c0 s0 D A z ads pc' ls' st' h') : W p l e R s m args below meth c H locs (h.2.2.1 - c0) (h.2.2.2 - s0) Q (F0 m pc rls rst) := by
  unfold mstep at hm
  dsimp only at hm
  cases hm
  refine lv_lconst hx hb hd rfl ?_
  exact m_k0 K hl ⟨m_i1 (by match v with
    | 0 => rfl
    | 1 => rfl), hs⟩ hr hS

theorem o_iload {n : Nat} (hx : p.tables.exec = Jvm.exec) (hb : c.code = cc) (hl : m_lr ads z nL ls rls) (hs : m_vrs ads z st rst) (hr : m_rep D A ads s h H) (hS : va_S A s.heap H locs) (hd : decode cc pc = .ok (.iload n, 2))  (hm : mstep (.iload n) q pc ls st h = .ok (pc', ls', st', h')) (K : m_K p l e R s m args below meth c Q nL c0 s0 D A z ads pc' ls' st' h') : W p l e R s m args below meth c H locs (h.2.2.1 - c0) (h.2.2.2 - s0) Q (F0 m pc rls rst) := by
  unfold mstep at hm
  dsimp only at hm
  unfold m_ldi at hm
  split at hm
  · next x hx1 =>
    cases hm
    obtain ⟨r, h1, X, rfl, h3⟩ := hl.2.2.2 _ _ hx1
    refine lv_iload hx hb hd h1 ?_
    exact m_k0 K hl ⟨⟨X, rfl, h3⟩, hs⟩ hr hS
  · cases hm

theorem o_iload_n {n : Fin 4} (hx : p.tables.exec = Jvm.exec) (hb : c.code = cc) (hl : m_lr ads z nL ls rls) (hs : m_vrs ads z st rst) (hr : m_rep D A ads s h H) (hS : va_S A s.heap H locs) (hd : decode cc pc = .ok (.iload_n n, 1))  (hm : mstep (.iload_n n) q pc ls st h = .ok (pc', ls', st', h')) (K : m_K p l e R s m args below meth c Q nL c0 s0 D A z ads pc' ls' st' h') : W p l e R s m args below meth c H locs (h.2.2.1 - c0) (h.2.2.2 - s0) Q (F0 m pc rls rst) := by
  unfold mstep at hm
  dsimp only at hm
  unfold m_ldi at hm
  split at hm
  · next x hx1 =>
    cases hm
    obtain ⟨r, h1, X, rfl, h3⟩ := hl.2.2.2 _ _ hx1
    refine lv_iload_n hx hb hd rfl h1 ?_
    exact m_k0 K hl ⟨⟨X, rfl, h3⟩, hs⟩ hr hS
  · cases hm

theorem o_lload {n : Nat} (hx : p.tables.exec = Jvm.exec) (hb : c.code = cc) (hl : m_lr ads z nL ls rls) (hs : m_vrs ads z st rst) (hr : m_rep D A ads s h H) (hS : va_S A s.heap H locs) (hd : decode cc pc = .ok (.lload n, 2))  (hm : mstep (.lload n) q pc ls st h = .ok (pc', ls', st', h')) (K : m_K p l e R s m args below meth c Q nL c0 s0 D A z ads pc' ls' st' h') : W p l e R s m args below meth c H locs (h.2.2.1 - c0) (h.2.2.2 - s0) Q (F0 m pc rls rst) := by
  unfold mstep at hm
  dsimp only at hm
  unfold m_ldl at hm
  split at hm
  · next x hx1 =>
    cases hm
    obtain ⟨r, h1, X, rfl, h3⟩ := hl.2.2.2 _ _ hx1
    refine lv_lload hx hb hd h1 ?_
    exact m_k0 K hl ⟨⟨X, rfl, h3⟩, hs⟩ hr hS
  · cases hm

theorem o_lload_n {n : Fin 4} (hx : p.tables.exec = Jvm.exec) (hb : c.code = cc) (hl : m_lr ads z nL ls rls) (hs : m_vrs ads z st rst) (hr : m_rep D A ads s h H) (hS : va_S A s.heap H locs) (hd : decode cc pc = .ok (.lload_n n, 1))  (hm : mstep (.lload_n n) q pc ls st h = .ok (pc', ls', st', h')) (K : m_K p l e R s m args below meth c Q nL c0 s0 D A z ads pc' ls' st' h') : W p l e R s m args below meth c H locs (h.2.2.1 - c0) (h.2.2.2 - s0) Q (F0 m pc rls rst) := by
  unfold mstep at hm
  dsimp only at hm
  unfold m_ldl at hm
  split at hm
  · next x hx1 =>
    cases hm
    obtain ⟨r, h1, X, rfl, h3⟩ := hl.2.2.2 _ _ hx1
    refine lv_lload_n hx hb hd rfl h1 ?_
    exact m_k0 K hl ⟨⟨X, rfl, h3⟩, hs⟩ hr hS
  · cases hm

theorem o_aload {n : Nat} (hx : p.tables.exec = Jvm.exec) (hb : c.code = cc) (hl : m_lr ads z nL ls rls) (hs : m_vrs ads z st rst) (hr : m_rep D A ads s h H) (hS : va_S A s.heap H locs) (hd : decode cc pc = .ok (.aload n, 2))  (hm : mstep (.aload n) q pc ls st h = .ok (pc', ls', st', h')) (K : m_K p l e R s m args below meth c Q nL c0 s0 D A z ads pc' ls' st' h') : W p l e R s m args below meth c H locs (h.2.2.1 - c0) (h.2.2.2 - s0) Q (F0 m pc rls rst) := by
  unfold mstep at hm
  dsimp only at hm
  unfold m_lda at hm
  split at hm
  · next t x hx1 =>
    cases hm
    obtain ⟨r, h1, h2⟩ := hl.2.2.2 _ _ hx1
    rcases m_ref h2 with e | ⟨a, e⟩
    · subst e
      refine lv_aloadN hx hb hd h1 ?_
      exact m_k0 K hl ⟨h2, hs⟩ hr hS
    · subst e
      refine lv_aload hx hb hd h1 ?_
      exact m_k0 K hl ⟨h2, hs⟩ hr hS
  · cases hm

theorem o_aload_n {n : Fin 4} (hx : p.tables.exec = Jvm.exec) (hb : c.code = cc) (hl : m_lr ads z nL ls rls) (hs : m_vrs ads z st rst) (hr : m_rep D A ads s h H) (hS : va_S A s.heap H locs) (hd : decode cc pc = .ok (.aload_n n, 1))  (hm : mstep (.aload_n n) q pc ls st h = .ok (pc', ls', st', h')) (K : m_K p l e R s m args below meth c Q nL c0 s0 D A z ads pc' ls' st' h') : W p l e R s m args below meth c H locs (h.2.2.1 - c0) (h.2.2.2 - s0) Q (F0 m pc rls rst) := by
  unfold mstep at hm
  dsimp only at hm
  unfold m_lda at hm
  split at hm
  · next t x hx1 =>
    cases hm
    obtain ⟨r, h1, h2⟩ := hl.2.2.2 _ _ hx1
    rcases m_ref h2 with e | ⟨a, e⟩
    · subst e
      refine lv_aload_nN hx hb hd rfl h1 ?_
      exact m_k0 K hl ⟨h2, hs⟩ hr hS
    · subst e
      refine lv_aload_n hx hb hd rfl h1 ?_
      exact m_k0 K hl ⟨h2, hs⟩ hr hS
  · cases hm

theorem o_istore {n : Nat} (hx : p.tables.exec = Jvm.exec) (hb : c.code = cc) (hl : m_lr ads z nL ls rls) (hs : m_vrs ads z st rst) (hr : m_rep D A ads s h H) (hS : va_S A s.heap H locs) (hd : decode cc pc = .ok (.istore n, 2))  (hm : mstep (.istore n) q pc ls st h = .ok (pc', ls', st', h')) (K : m_K p l e R s m args below meth c Q nL c0 s0 D A z ads pc' ls' st' h') : W p l e R s m args below meth c H locs (h.2.2.1 - c0) (h.2.2.2 - s0) Q (F0 m pc rls rst) := by
  unfold mstep at hm
  dsimp only at hm
  unfold m_stv at hm
  split at hm
  · next v r =>
    split at hm
    · next hv1 =>
      unfold m_put at hm
      split at hm
      · next l2 hl2 =>
        cases hm
        obtain ⟨t, x⟩ := v
        dsimp only at hv1
        obtain rfl : t = 0 := by omega
        obtain ⟨X, rr, rfl, hX, hs2⟩ := m_s0 hs
        have hn : _ + 1 ≤ _ := (m_st_len hl2)
        refine lv_istore hx hb hd (m_all_has hl.2.1 hl.2.2.1) (by have := hl.1; omega) rfl (fun ls2 h2 => ?_)
        exact m_k0 K (m_store hl (m_i0 hX) hl2 (fun hc => by first | exact h2 | simp [m_cat] at hc) (fun hc => by first | exact h2 | simp [m_cat] at hc)).1 hs2 hr hS
      · cases hm
    · cases hm
  · cases hm

theorem o_istore_n {n : Fin 4} (hx : p.tables.exec = Jvm.exec) (hb : c.code = cc) (hl : m_lr ads z nL ls rls) (hs : m_vrs ads z st rst) (hr : m_rep D A ads s h H) (hS : va_S A s.heap H locs) (hd : decode cc pc = .ok (.istore_n n, 1))  (hm : mstep (.istore_n n) q pc ls st h = .ok (pc', ls', st', h')) (K : m_K p l e R s m args below meth c Q nL c0 s0 D A z ads pc' ls' st' h') : W p l e R s m args below meth c H locs (h.2.2.1 - c0) (h.2.2.2 - s0) Q (F0 m pc rls rst) := by
  unfold mstep at hm
  dsimp only at hm
  unfold m_stv at hm
  split at hm
  · next v r =>
    split at hm
    · next hv1 =>
      unfold m_put at hm
      split at hm
      · next l2 hl2 =>
        cases hm
        obtain ⟨t, x⟩ := v
        dsimp only at hv1
        obtain rfl : t = 0 := by omega
        obtain ⟨X, rr, rfl, hX, hs2⟩ := m_s0 hs
        have hn : _ + 1 ≤ _ := (m_st_len hl2)
        refine lv_istore_n hx hb hd rfl (m_all_has hl.2.1 hl.2.2.1) (by have := hl.1; omega) rfl (fun ls2 h2 => ?_)
        exact m_k0 K (m_store hl (m_i0 hX) hl2 (fun hc => by first | exact h2 | simp [m_cat] at hc) (fun hc => by first | exact h2 | simp [m_cat] at hc)).1 hs2 hr hS
      · cases hm
    · cases hm
  · cases hm

theorem o_lstore {n : Nat} (hx : p.tables.exec = Jvm.exec) (hb : c.code = cc) (hl : m_lr ads z nL ls rls) (hs : m_vrs ads z st rst) (hr : m_rep D A ads s h H) (hS : va_S A s.heap H locs) (hd : decode cc pc = .ok (.lstore n, 2))  (hm : mstep (.lstore n) q pc ls st h = .ok (pc', ls', st', h')) (K : m_K p l e R s m args below meth c Q nL c0 s0 D A z ads pc' ls' st' h') : W p l e R s m args below meth c H locs (h.2.2.1 - c0) (h.2.2.2 - s0) Q (F0 m pc rls rst) := by
  unfold mstep at hm
  dsimp only at hm
  unfold m_stv at hm
  split at hm
  · next v r =>
    split at hm
    · next hv1 =>
      unfold m_put at hm
      split at hm
      · next l2 hl2 =>
        cases hm
        obtain ⟨t, x⟩ := v
        dsimp only at hv1
        obtain rfl : t = 1 := by omega
        obtain ⟨X, rr, rfl, hX, hs2⟩ := m_s1 hs
        have hn : _ + 2 ≤ _ := (m_st_len hl2)
        refine lv_lstore hx hb hd (m_all_has hl.2.1 hl.2.2.1) (by have := hl.1; omega) rfl (fun ls2 h2 => ?_)
        exact m_k0 K (m_store hl (m_i1 hX) hl2 (fun hc => by first | exact h2 | simp [m_cat] at hc) (fun hc => by first | exact h2 | simp [m_cat] at hc)).1 hs2 hr hS
      · cases hm
    · cases hm
  · cases hm

theorem o_lstore_n {n : Fin 4} (hx : p.tables.exec = Jvm.exec) (hb : c.code = cc) (hl : m_lr ads z nL ls rls) (hs : m_vrs ads z st rst) (hr : m_rep D A ads s h H) (hS : va_S A s.heap H locs) (hd : decode cc pc = .ok (.lstore_n n, 1))  (hm : mstep (.lstore_n n) q pc ls st h = .ok (pc', ls', st', h')) (K : m_K p l e R s m args below meth c Q nL c0 s0 D A z ads pc' ls' st' h') : W p l e R s m args below meth c H locs (h.2.2.1 - c0) (h.2.2.2 - s0) Q (F0 m pc rls rst) := by
  unfold mstep at hm
  dsimp only at hm
  unfold m_stv at hm
  split at hm
  · next v r =>
    split at hm
    · next hv1 =>
      unfold m_put at hm
      split at hm
      · next l2 hl2 =>
        cases hm
        obtain ⟨t, x⟩ := v
        dsimp only at hv1
        obtain rfl : t = 1 := by omega
        obtain ⟨X, rr, rfl, hX, hs2⟩ := m_s1 hs
        have hn : _ + 2 ≤ _ := (m_st_len hl2)
        refine lv_lstore_n hx hb hd rfl (m_all_has hl.2.1 hl.2.2.1) (by have := hl.1; omega) rfl (fun ls2 h2 => ?_)
        exact m_k0 K (m_store hl (m_i1 hX) hl2 (fun hc => by first | exact h2 | simp [m_cat] at hc) (fun hc => by first | exact h2 | simp [m_cat] at hc)).1 hs2 hr hS
      · cases hm
    · cases hm
  · cases hm

theorem o_astore {n : Nat} (hx : p.tables.exec = Jvm.exec) (hb : c.code = cc) (hl : m_lr ads z nL ls rls) (hs : m_vrs ads z st rst) (hr : m_rep D A ads s h H) (hS : va_S A s.heap H locs) (hd : decode cc pc = .ok (.astore n, 2))  (hm : mstep (.astore n) q pc ls st h = .ok (pc', ls', st', h')) (K : m_K p l e R s m args below meth c Q nL c0 s0 D A z ads pc' ls' st' h') : W p l e R s m args below meth c H locs (h.2.2.1 - c0) (h.2.2.2 - s0) Q (F0 m pc rls rst) := by
  unfold mstep at hm
  dsimp only at hm
  unfold m_stv at hm
  split at hm
  · next v r =>
    split at hm
    · next hv1 =>
      unfold m_put at hm
      split at hm
      · next l2 hl2 =>
        cases hm
        obtain ⟨t, x⟩ := v
        dsimp only at hv1
        obtain ⟨t, rfl⟩ : ∃ k, t = k + 2 := ⟨t - 2, by omega⟩
        obtain ⟨X, rr, rfl, hX, hs2⟩ := m_sv hs
        have hn := (m_st_len hl2)
        have hc1 : m_cat (t + 2, x) = 1 := by simp [m_cat]
        rw [hc1] at hn
        rcases m_ref hX with e | ⟨a, e⟩
        · subst e
          refine lv_astoreN hx hb hd (m_all_has hl.2.1 hl.2.2.1) (by have := hl.1; omega) rfl (fun ls2 h2 => ?_)
          exact m_k0 K (m_store hl hX hl2 (fun hc => h2) (fun hc => by rw [hc1] at hc; cases hc)).1 hs2 hr hS
        · subst e
          refine lv_astore hx hb hd (m_all_has hl.2.1 hl.2.2.1) (by have := hl.1; omega) rfl (fun ls2 h2 => ?_)
          exact m_k0 K (m_store hl hX hl2 (fun hc => h2) (fun hc => by rw [hc1] at hc; cases hc)).1 hs2 hr hS
      · cases hm
    · cases hm
  · cases hm

theorem o_astore_n {n : Fin 4} (hx : p.tables.exec = Jvm.exec) (hb : c.code = cc) (hl : m_lr ads z nL ls rls) (hs : m_vrs ads z st rst) (hr : m_rep D A ads s h H) (hS : va_S A s.heap H locs) (hd : decode cc pc = .ok (.astore_n n, 1))  (hm : mstep (.astore_n n) q pc ls st h = .ok (pc', ls', st', h')) (K : m_K p l e R s m args below meth c Q nL c0 s0 D A z ads pc' ls' st' h') : W p l e R s m args below meth c H locs (h.2.2.1 - c0) (h.2.2.2 - s0) Q (F0 m pc rls rst) := by
  unfold mstep at hm
  dsimp only at hm
  unfold m_stv at hm
  split at hm
  · next v r =>
    split at hm
    · next hv1 =>
      unfold m_put at hm
      split at hm
      · next l2 hl2 =>
        cases hm
        obtain ⟨t, x⟩ := v
        dsimp only at hv1
        obtain ⟨t, rfl⟩ : ∃ k, t = k + 2 := ⟨t - 2, by omega⟩
        obtain ⟨X, rr, rfl, hX, hs2⟩ := m_sv hs
        have hn := (m_st_len hl2)
        have hc1 : m_cat (t + 2, x) = 1 := by simp [m_cat]
        rw [hc1] at hn
        rcases m_ref hX with e | ⟨a, e⟩
        · subst e
          refine lv_astore_nN hx hb hd rfl (m_all_has hl.2.1 hl.2.2.1) (by have := hl.1; omega) rfl (fun ls2 h2 => ?_)
          exact m_k0 K (m_store hl hX hl2 (fun hc => h2) (fun hc => by rw [hc1] at hc; cases hc)).1 hs2 hr hS
        · subst e
          refine lv_astore_n hx hb hd rfl (m_all_has hl.2.1 hl.2.2.1) (by have := hl.1; omega) rfl (fun ls2 h2 => ?_)
          exact m_k0 K (m_store hl hX hl2 (fun hc => h2) (fun hc => by rw [hc1] at hc; cases hc)).1 hs2 hr hS
      · cases hm
    · cases hm
  · cases hm

theorem o_iinc {n : Nat} {v : Int} (hx : p.tables.exec = Jvm.exec) (hb : c.code = cc) (hl : m_lr ads z nL ls rls) (hs : m_vrs ads z st rst) (hr : m_rep D A ads s h H) (hS : va_S A s.heap H locs) (hd : decode cc pc = .ok (.iinc n v, 3)) (hv : -2147483648 ≤ v ∧ v < 2147483648) (hm : mstep (.iinc n v) q pc ls st h = .ok (pc', ls', st', h')) (K : m_K p l e R s m args below meth c Q nL c0 s0 D A z ads pc' ls' st' h') : W p l e R s m args below meth c H locs (h.2.2.1 - c0) (h.2.2.2 - s0) Q (F0 m pc rls rst) := by
  unfold mstep at hm
  dsimp only at hm
  split at hm
  · next x hx1 =>
    unfold m_put at hm
    split at hm
    · next l2 hl2 =>
      cases hm
      obtain ⟨r, h1, X, rfl, h3⟩ := hl.2.2.2 _ _ hx1
      have hn : n + 1 ≤ _ := (m_st_len hl2)
      obtain ⟨k, hk⟩ := List.getElem?_of_mem (m_all_mem.mpr h1)
      have hw : (X + Int32.ofInt v).toInt = w32 (x + v) := by
        rw [m_iadd, h3, m_ofInt hv.1 hv.2]
      refine lv_iinc hx hb hd (m_all_has hl.2.1 hl.2.2.1) hk rfl (by have := hl.1; omega) rfl (fun ls2 h2 => ?_)
      exact m_k0 K (m_store hl (m_i0 hw) hl2 (fun hc => h2) (fun hc => by simp [m_cat] at hc)).1 hs hr hS
    · cases hm
  · cases hm

theorem o_iadd  (hx : p.tables.exec = Jvm.exec) (hb : c.code = cc) (hl : m_lr ads z nL ls rls) (hs : m_vrs ads z st rst) (hr : m_rep D A ads s h H) (hS : va_S A s.heap H locs) (hd : decode cc pc = .ok (.iadd, 1))  (hm : mstep (.iadd) q pc ls st h = .ok (pc', ls', st', h')) (K : m_K p l e R s m args below meth c Q nL c0 s0 D A z ads pc' ls' st' h') : W p l e R s m args below meth c H locs (h.2.2.1 - c0) (h.2.2.2 - s0) Q (F0 m pc rls rst) := by
  unfold mstep at hm
  dsimp only at hm
  unfold m_i2 at hm
  split at hm
  · next y x r =>
    cases hm
    obtain ⟨Y, r1, rfl, hY, hs1⟩ := m_s0 hs
    obtain ⟨X, r2, rfl, hX, hs2⟩ := m_s0 hs1
    refine lv_iadd hx hb hd ?_
    exact m_k0 K hl ⟨m_i0 (by rw [m_iadd, hX, hY]), hs2⟩ hr hS
  · cases hm

theorem o_isub  (hx : p.tables.exec = Jvm.exec) (hb : c.code = cc) (hl : m_lr ads z nL ls rls) (hs : m_vrs ads z st rst) (hr : m_rep D A ads s h H) (hS : va_S A s.heap H locs) (hd : decode cc pc = .ok (.isub, 1))  (hm : mstep (.isub) q pc ls st h = .ok (pc', ls', st', h')) (K : m_K p l e R s m args below meth c Q nL c0 s0 D A z ads pc' ls' st' h') : W p l e R s m args below meth c H locs (h.2.2.1 - c0) (h.2.2.2 - s0) Q (F0 m pc rls rst) := by
  unfold mstep at hm
  dsimp only at hm
  unfold m_i2 at hm
  split at hm
  · next y x r =>
    cases hm
    obtain ⟨Y, r1, rfl, hY, hs1⟩ := m_s0 hs
    obtain ⟨X, r2, rfl, hX, hs2⟩ := m_s0 hs1
    refine lv_isub hx hb hd ?_
    exact m_k0 K hl ⟨m_i0 (by rw [m_isub, hX, hY]), hs2⟩ hr hS
  · cases hm

theorem o_imul  (hx : p.tables.exec = Jvm.exec) (hb : c.code = cc) (hl : m_lr ads z nL ls rls) (hs : m_vrs ads z st rst) (hr : m_rep D A ads s h H) (hS : va_S A s.heap H locs) (hd : decode cc pc = .ok (.imul, 1))  (hm : mstep (.imul) q pc ls st h = .ok (pc', ls', st', h')) (K : m_K p l e R s m args below meth c Q nL c0 s0 D A z ads pc' ls' st' h') : W p l e R s m args below meth c H locs (h.2.2.1 - c0) (h.2.2.2 - s0) Q (F0 m pc rls rst) := by
  unfold mstep at hm
  dsimp only at hm
  unfold m_i2 at hm
  split at hm
  · next y x r =>
    cases hm
    obtain ⟨Y, r1, rfl, hY, hs1⟩ := m_s0 hs
    obtain ⟨X, r2, rfl, hX, hs2⟩ := m_s0 hs1
    refine lv_imul hx hb hd ?_
    exact m_k0 K hl ⟨m_i0 (by rw [m_imul, hX, hY]), hs2⟩ hr hS
  · cases hm

theorem o_iand  (hx : p.tables.exec = Jvm.exec) (hb : c.code = cc) (hl : m_lr ads z nL ls rls) (hs : m_vrs ads z st rst) (hr : m_rep D A ads s h H) (hS : va_S A s.heap H locs) (hd : decode cc pc = .ok (.iand, 1))  (hm : mstep (.iand) q pc ls st h = .ok (pc', ls', st', h')) (K : m_K p l e R s m args below meth c Q nL c0 s0 D A z ads pc' ls' st' h') : W p l e R s m args below meth c H locs (h.2.2.1 - c0) (h.2.2.2 - s0) Q (F0 m pc rls rst) := by
  unfold mstep at hm
  dsimp only at hm
  unfold m_i2 at hm
  split at hm
  · next y x r =>
    cases hm
    obtain ⟨Y, r1, rfl, hY, hs1⟩ := m_s0 hs
    obtain ⟨X, r2, rfl, hX, hs2⟩ := m_s0 hs1
    refine lv_iand hx hb hd ?_
    exact m_k0 K hl ⟨m_i0 (by rw [m_iand, hX, hY]), hs2⟩ hr hS
  · cases hm

theorem o_ior  (hx : p.tables.exec = Jvm.exec) (hb : c.code = cc) (hl : m_lr ads z nL ls rls) (hs : m_vrs ads z st rst) (hr : m_rep D A ads s h H) (hS : va_S A s.heap H locs) (hd : decode cc pc = .ok (.ior, 1))  (hm : mstep (.ior) q pc ls st h = .ok (pc', ls', st', h')) (K : m_K p l e R s m args below meth c Q nL c0 s0 D A z ads pc' ls' st' h') : W p l e R s m args below meth c H locs (h.2.2.1 - c0) (h.2.2.2 - s0) Q (F0 m pc rls rst) := by
  unfold mstep at hm
  dsimp only at hm
  unfold m_i2 at hm
  split at hm
  · next y x r =>
    cases hm
    obtain ⟨Y, r1, rfl, hY, hs1⟩ := m_s0 hs
    obtain ⟨X, r2, rfl, hX, hs2⟩ := m_s0 hs1
    refine lv_ior hx hb hd ?_
    exact m_k0 K hl ⟨m_i0 (by rw [m_ior, hX, hY]), hs2⟩ hr hS
  · cases hm

theorem o_ladd  (hx : p.tables.exec = Jvm.exec) (hb : c.code = cc) (hl : m_lr ads z nL ls rls) (hs : m_vrs ads z st rst) (hr : m_rep D A ads s h H) (hS : va_S A s.heap H locs) (hd : decode cc pc = .ok (.ladd, 1))  (hm : mstep (.ladd) q pc ls st h = .ok (pc', ls', st', h')) (K : m_K p l e R s m args below meth c Q nL c0 s0 D A z ads pc' ls' st' h') : W p l e R s m args below meth c H locs (h.2.2.1 - c0) (h.2.2.2 - s0) Q (F0 m pc rls rst) := by
  unfold mstep at hm
  dsimp only at hm
  unfold m_l2 at hm
  split at hm
  · next y x r =>
    cases hm
    obtain ⟨Y, r1, rfl, hY, hs1⟩ := m_s1 hs
    obtain ⟨X, r2, rfl, hX, hs2⟩ := m_s1 hs1
    refine lv_ladd hx hb hd ?_
    exact m_k0 K hl ⟨m_i1 (by rw [m_ladd, hX, hY]), hs2⟩ hr hS
  · cases hm

theorem o_lsub  (hx : p.tables.exec = Jvm.exec) (hb : c.code = cc) (hl : m_lr ads z nL ls rls) (hs : m_vrs ads z st rst) (hr : m_rep D A ads s h H) (hS : va_S A s.heap H locs) (hd : decode cc pc = .ok (.lsub, 1))  (hm : mstep (.lsub) q pc ls st h = .ok (pc', ls', st', h')) (K : m_K p l e R s m args below meth c Q nL c0 s0 D A z ads pc' ls' st' h') : W p l e R s m args below meth c H locs (h.2.2.1 - c0) (h.2.2.2 - s0) Q (F0 m pc rls rst) := by
  unfold mstep at hm
  dsimp only at hm
  unfold m_l2 at hm
  split at hm
  · next y x r =>
    cases hm
    obtain ⟨Y, r1, rfl, hY, hs1⟩ := m_s1 hs
    obtain ⟨X, r2, rfl, hX, hs2⟩ := m_s1 hs1
    refine lv_lsub hx hb hd ?_
    exact m_k0 K hl ⟨m_i1 (by rw [m_lsub, hX, hY]), hs2⟩ hr hS
  · cases hm

theorem o_lmul  (hx : p.tables.exec = Jvm.exec) (hb : c.code = cc) (hl : m_lr ads z nL ls rls) (hs : m_vrs ads z st rst) (hr : m_rep D A ads s h H) (hS : va_S A s.heap H locs) (hd : decode cc pc = .ok (.lmul, 1))  (hm : mstep (.lmul) q pc ls st h = .ok (pc', ls', st', h')) (K : m_K p l e R s m args below meth c Q nL c0 s0 D A z ads pc' ls' st' h') : W p l e R s m args below meth c H locs (h.2.2.1 - c0) (h.2.2.2 - s0) Q (F0 m pc rls rst) := by
  unfold mstep at hm
  dsimp only at hm
  unfold m_l2 at hm
  split at hm
  · next y x r =>
    cases hm
    obtain ⟨Y, r1, rfl, hY, hs1⟩ := m_s1 hs
    obtain ⟨X, r2, rfl, hX, hs2⟩ := m_s1 hs1
    refine lv_lmul hx hb hd ?_
    exact m_k0 K hl ⟨m_i1 (by rw [m_lmul, hX, hY]), hs2⟩ hr hS
  · cases hm

theorem o_idiv  (hx : p.tables.exec = Jvm.exec) (hb : c.code = cc) (hl : m_lr ads z nL ls rls) (hs : m_vrs ads z st rst) (hr : m_rep D A ads s h H) (hS : va_S A s.heap H locs) (hd : decode cc pc = .ok (.idiv, 1))  (hm : mstep (.idiv) q pc ls st h = .ok (pc', ls', st', h')) (K : m_K p l e R s m args below meth c Q nL c0 s0 D A z ads pc' ls' st' h') : W p l e R s m args below meth c H locs (h.2.2.1 - c0) (h.2.2.2 - s0) Q (F0 m pc rls rst) := by
  unfold mstep at hm
  dsimp only at hm
  split at hm
  · next y x r =>
    split at hm
    · cases hm
    · next hy0 =>
      cases hm
      obtain ⟨Y, r1, rfl, hY, hs1⟩ := m_s0 hs
      obtain ⟨X, r2, rfl, hX, hs2⟩ := m_s0 hs1
      refine lv_idiv hx hb hd (fun e => hy0 (by rw [← hY, e]; rfl)) ?_
      exact m_k0 K hl ⟨m_i0 (by rw [m_idiv, hX, hY]), hs2⟩ hr hS
  · cases hm

theorem o_irem  (hx : p.tables.exec = Jvm.exec) (hb : c.code = cc) (hl : m_lr ads z nL ls rls) (hs : m_vrs ads z st rst) (hr : m_rep D A ads s h H) (hS : va_S A s.heap H locs) (hd : decode cc pc = .ok (.irem, 1))  (hm : mstep (.irem) q pc ls st h = .ok (pc', ls', st', h')) (K : m_K p l e R s m args below meth c Q nL c0 s0 D A z ads pc' ls' st' h') : W p l e R s m args below meth c H locs (h.2.2.1 - c0) (h.2.2.2 - s0) Q (F0 m pc rls rst) := by
  unfold mstep at hm
  dsimp only at hm
  split at hm
  · next y x r =>
    split at hm
    · cases hm
    · next hy0 =>
      cases hm
      obtain ⟨Y, r1, rfl, hY, hs1⟩ := m_s0 hs
      obtain ⟨X, r2, rfl, hX, hs2⟩ := m_s0 hs1
      refine lv_irem hx hb hd (fun e => hy0 (by rw [← hY, e]; rfl)) ?_
      exact m_k0 K hl ⟨m_i0 (by rw [m_irem, hX, hY]), hs2⟩ hr hS
  · cases hm

theorem o_ishl  (hx : p.tables.exec = Jvm.exec) (hb : c.code = cc) (hl : m_lr ads z nL ls rls) (hs : m_vrs ads z st rst) (hr : m_rep D A ads s h H) (hS : va_S A s.heap H locs) (hd : decode cc pc = .ok (.ishl, 1))  (hm : mstep (.ishl) q pc ls st h = .ok (pc', ls', st', h')) (K : m_K p l e R s m args below meth c Q nL c0 s0 D A z ads pc' ls' st' h') : W p l e R s m args below meth c H locs (h.2.2.1 - c0) (h.2.2.2 - s0) Q (F0 m pc rls rst) := by
  unfold mstep at hm
  dsimp only at hm
  split at hm
  · next y x r =>
    split at hm
    · next hy0 =>
      cases hm
      obtain ⟨Y, r1, rfl, hY, hs1⟩ := m_s0 hs
      obtain ⟨X, r2, rfl, hX, hs2⟩ := m_s0 hs1
      refine lv_ishl hx hb hd ?_
      exact m_k0 K hl ⟨m_i0 (by rw [← hX, ← hY]; rw [← hY] at hy0; exact m_ishl X Y hy0.1 hy0.2), hs2⟩ hr hS
    · cases hm
  · cases hm

theorem o_ishr  (hx : p.tables.exec = Jvm.exec) (hb : c.code = cc) (hl : m_lr ads z nL ls rls) (hs : m_vrs ads z st rst) (hr : m_rep D A ads s h H) (hS : va_S A s.heap H locs) (hd : decode cc pc = .ok (.ishr, 1))  (hm : mstep (.ishr) q pc ls st h = .ok (pc', ls', st', h')) (K : m_K p l e R s m args below meth c Q nL c0 s0 D A z ads pc' ls' st' h') : W p l e R s m args below meth c H locs (h.2.2.1 - c0) (h.2.2.2 - s0) Q (F0 m pc rls rst) := by
  unfold mstep at hm
  dsimp only at hm
  split at hm
  · next y x r =>
    split at hm
    · next hy0 =>
      cases hm
      obtain ⟨Y, r1, rfl, hY, hs1⟩ := m_s0 hs
      obtain ⟨X, r2, rfl, hX, hs2⟩ := m_s0 hs1
      refine lv_ishr hx hb hd ?_
      exact m_k0 K hl ⟨m_i0 (by rw [← hX, ← hY]; rw [← hY] at hy0; exact m_ishr X Y hy0.1 hy0.2), hs2⟩ hr hS
    · cases hm
  · cases hm

theorem o_iushr  (hx : p.tables.exec = Jvm.exec) (hb : c.code = cc) (hl : m_lr ads z nL ls rls) (hs : m_vrs ads z st rst) (hr : m_rep D A ads s h H) (hS : va_S A s.heap H locs) (hd : decode cc pc = .ok (.iushr, 1))  (hm : mstep (.iushr) q pc ls st h = .ok (pc', ls', st', h')) (K : m_K p l e R s m args below meth c Q nL c0 s0 D A z ads pc' ls' st' h') : W p l e R s m args below meth c H locs (h.2.2.1 - c0) (h.2.2.2 - s0) Q (F0 m pc rls rst) := by
  unfold mstep at hm
  dsimp only at hm
  split at hm
  · next y x r =>
    split at hm
    · next hy0 =>
      cases hm
      obtain ⟨Y, r1, rfl, hY, hs1⟩ := m_s0 hs
      obtain ⟨X, r2, rfl, hX, hs2⟩ := m_s0 hs1
      refine lv_iushr hx hb hd rfl ?_
      exact m_k0 K hl ⟨m_i0 (by rw [← hX, ← hY]; rw [← hY] at hy0; exact m_iushr X Y hy0.1 hy0.2), hs2⟩ hr hS
    · cases hm
  · cases hm

theorem o_lcmp  (hx : p.tables.exec = Jvm.exec) (hb : c.code = cc) (hl : m_lr ads z nL ls rls) (hs : m_vrs ads z st rst) (hr : m_rep D A ads s h H) (hS : va_S A s.heap H locs) (hd : decode cc pc = .ok (.lcmp, 1))  (hm : mstep (.lcmp) q pc ls st h = .ok (pc', ls', st', h')) (K : m_K p l e R s m args below meth c Q nL c0 s0 D A z ads pc' ls' st' h') : W p l e R s m args below meth c H locs (h.2.2.1 - c0) (h.2.2.2 - s0) Q (F0 m pc rls rst) := by
  unfold mstep at hm
  dsimp only at hm
  split at hm
  · next y x r =>
    cases hm
    obtain ⟨Y, r1, rfl, hY, hs1⟩ := m_s1 hs
    obtain ⟨X, r2, rfl, hX, hs2⟩ := m_s1 hs1
    refine W.lcmp hx hb hd ?_
    exact m_k0 K hl ⟨m_i0 (by rw [m_lcmp, hX, hY]), hs2⟩ hr hS
  · cases hm

theorem o_i2l  (hx : p.tables.exec = Jvm.exec) (hb : c.code = cc) (hl : m_lr ads z nL ls rls) (hs : m_vrs ads z st rst) (hr : m_rep D A ads s h H) (hS : va_S A s.heap H locs) (hd : decode cc pc = .ok (.i2l, 1))  (hm : mstep (.i2l) q pc ls st h = .ok (pc', ls', st', h')) (K : m_K p l e R s m args below meth c Q nL c0 s0 D A z ads pc' ls' st' h') : W p l e R s m args below meth c H locs (h.2.2.1 - c0) (h.2.2.2 - s0) Q (F0 m pc rls rst) := by
  unfold mstep at hm
  dsimp only at hm
  split at hm
  · next x r =>
    cases hm
    obtain ⟨X, r2, rfl, hX, hs2⟩ := m_s0 hs
    refine lv_i2l hx hb hd rfl ?_
    exact m_k0 K hl ⟨m_i1 (by rw [← hX]; exact m_i2l X), hs2⟩ hr hS
  · cases hm

theorem o_i2c  (hx : p.tables.exec = Jvm.exec) (hb : c.code = cc) (hl : m_lr ads z nL ls rls) (hs : m_vrs ads z st rst) (hr : m_rep D A ads s h H) (hS : va_S A s.heap H locs) (hd : decode cc pc = .ok (.i2c, 1))  (hm : mstep (.i2c) q pc ls st h = .ok (pc', ls', st', h')) (K : m_K p l e R s m args below meth c Q nL c0 s0 D A z ads pc' ls' st' h') : W p l e R s m args below meth c H locs (h.2.2.1 - c0) (h.2.2.2 - s0) Q (F0 m pc rls rst) := by
  unfold mstep at hm
  dsimp only at hm
  split at hm
  · next x r =>
    cases hm
    obtain ⟨X, r2, rfl, hX, hs2⟩ := m_s0 hs
    refine lv_i2c hx hb hd rfl ?_
    exact m_k0 K hl ⟨m_i0 (by rw [← hX]; exact m_i2cc X), hs2⟩ hr hS
  · cases hm

theorem o_i2b  (hx : p.tables.exec = Jvm.exec) (hb : c.code = cc) (hl : m_lr ads z nL ls rls) (hs : m_vrs ads z st rst) (hr : m_rep D A ads s h H) (hS : va_S A s.heap H locs) (hd : decode cc pc = .ok (.i2b, 1))  (hm : mstep (.i2b) q pc ls st h = .ok (pc', ls', st', h')) (K : m_K p l e R s m args below meth c Q nL c0 s0 D A z ads pc' ls' st' h') : W p l e R s m args below meth c H locs (h.2.2.1 - c0) (h.2.2.2 - s0) Q (F0 m pc rls rst) := by
  unfold mstep at hm
  dsimp only at hm
  split at hm
  · next x r =>
    cases hm
    obtain ⟨X, r2, rfl, hX, hs2⟩ := m_s0 hs
    refine lv_i2b hx hb hd rfl ?_
    exact m_k0 K hl ⟨m_i0 (by rw [← hX]; exact m_i2bb X), hs2⟩ hr hS
  · cases hm

theorem o_dup  (hx : p.tables.exec = Jvm.exec) (hb : c.code = cc) (hl : m_lr ads z nL ls rls) (hs : m_vrs ads z st rst) (hr : m_rep D A ads s h H) (hS : va_S A s.heap H locs) (hd : decode cc pc = .ok (.dup, 1))  (hm : mstep (.dup) q pc ls st h = .ok (pc', ls', st', h')) (K : m_K p l e R s m args below meth c Q nL c0 s0 D A z ads pc' ls' st' h') : W p l e R s m args below meth c H locs (h.2.2.1 - c0) (h.2.2.2 - s0) Q (F0 m pc rls rst) := by
  unfold mstep at hm
  dsimp only at hm
  split at hm
  · next v r =>
    split at hm
    · cases hm
    · next hv1 =>
      cases hm
      obtain ⟨X, r2, rfl, hX, hs2⟩ := m_sv hs
      refine lv_dup hx hb hd (by rw [m_cat_of hX]; simp [m_cat, hv1]) ?_
      exact m_k0 K hl ⟨hX, hX, hs2⟩ hr hS
  · cases hm

theorem o_dup2  (hx : p.tables.exec = Jvm.exec) (hb : c.code = cc) (hl : m_lr ads z nL ls rls) (hs : m_vrs ads z st rst) (hr : m_rep D A ads s h H) (hS : va_S A s.heap H locs) (hd : decode cc pc = .ok (.dup2, 1))  (hm : mstep (.dup2) q pc ls st h = .ok (pc', ls', st', h')) (K : m_K p l e R s m args below meth c Q nL c0 s0 D A z ads pc' ls' st' h') : W p l e R s m args below meth c H locs (h.2.2.1 - c0) (h.2.2.2 - s0) Q (F0 m pc rls rst) := by
  unfold mstep at hm
  dsimp only at hm
  split at hm
  · next v w r =>
    split at hm
    · cases hm
    · next hv1 =>
      cases hm
      obtain ⟨X, r2, rfl, hX, hs2⟩ := m_sv hs
      obtain ⟨Y, r3, rfl, hY, hs3⟩ := m_sv hs2
      refine lv_dup2_11 hx hb hd (by rw [m_cat_of hX]; simp only [m_cat]; rw [if_neg (fun e => hv1 (Or.inl e))]) (by rw [m_cat_of hY]; simp only [m_cat]; rw [if_neg (fun e => hv1 (Or.inr e))]) ?_
      exact m_k0 K hl ⟨hX, hY, hX, hY, hs3⟩ hr hS
  · cases hm

theorem o_pop  (hx : p.tables.exec = Jvm.exec) (hb : c.code = cc) (hl : m_lr ads z nL ls rls) (hs : m_vrs ads z st rst) (hr : m_rep D A ads s h H) (hS : va_S A s.heap H locs) (hd : decode cc pc = .ok (.pop, 1))  (hm : mstep (.pop) q pc ls st h = .ok (pc', ls', st', h')) (K : m_K p l e R s m args below meth c Q nL c0 s0 D A z ads pc' ls' st' h') : W p l e R s m args below meth c H locs (h.2.2.1 - c0) (h.2.2.2 - s0) Q (F0 m pc rls rst) := by
  unfold mstep at hm
  dsimp only at hm
  split at hm
  · next v r =>
    split at hm
    · cases hm
    · next hv1 =>
      cases hm
      obtain ⟨X, r2, rfl, hX, hs2⟩ := m_sv hs
      refine lv_pop hx hb hd (by rw [m_cat_of hX]; simp [m_cat, hv1]) ?_
      exact m_k0 K hl hs2 hr hS
  · cases hm

theorem o_pop2  (hx : p.tables.exec = Jvm.exec) (hb : c.code = cc) (hl : m_lr ads z nL ls rls) (hs : m_vrs ads z st rst) (hr : m_rep D A ads s h H) (hS : va_S A s.heap H locs) (hd : decode cc pc = .ok (.pop2, 1))  (hm : mstep (.pop2) q pc ls st h = .ok (pc', ls', st', h')) (K : m_K p l e R s m args below meth c Q nL c0 s0 D A z ads pc' ls' st' h') : W p l e R s m args below meth c H locs (h.2.2.1 - c0) (h.2.2.2 - s0) Q (F0 m pc rls rst) := by
  unfold mstep at hm
  dsimp only at hm
  split at hm
  · next v r =>
    split at hm
    · next hv1 =>
      cases hm
      obtain ⟨X, r2, rfl, hX, hs2⟩ := m_sv hs
      refine lv_pop2_2 hx hb hd (by rw [m_cat_of hX]; simp [m_cat, hv1]) ?_
      exact m_k0 K hl hs2 hr hS
    · cases hm
  · cases hm

theorem o_goto {off : Int} (hx : p.tables.exec = Jvm.exec) (hb : c.code = cc) (hl : m_lr ads z nL ls rls) (hs : m_vrs ads z st rst) (hr : m_rep D A ads s h H) (hS : va_S A s.heap H locs) (hd : decode cc pc = .ok (.goto off, 3)) (h0 : 0 ≤ (pc : Int) + off) (hm : mstep (.goto off) q pc ls st h = .ok (pc', ls', st', h')) (K : m_K p l e R s m args below meth c Q nL c0 s0 D A z ads pc' ls' st' h') : W p l e R s m args below meth c H locs (h.2.2.1 - c0) (h.2.2.2 - s0) Q (F0 m pc rls rst) := by
  have htg : (pc : Int) + off = ((((pc : Int) + off).toNat : Nat) : Int) := by omega
  have hgo : ∀ (o : Int) (S : List MV) (T : List Value), m_go pc o ls S h = .ok (pc', ls', st', h') → m_vrs ads z S T → W p l e R s m args below meth c H locs (h.2.2.1 - c0) (h.2.2.2 - s0) Q (F0 m ((pc : Int) + o).toNat rls T) := by
    intro o S T hg hT
    unfold m_go at hg
    split at hg
    · cases hg
      exact m_k0 K hl hT hr hS
    · cases hg
  have hnx : ∀ (S : List MV) (T : List Value), (.ok (pc + 3, ls, S, h) : Except ME MS) = .ok (pc', ls', st', h') → m_vrs ads z S T → W p l e R s m args below meth c H locs (h.2.2.1 - c0) (h.2.2.2 - s0) Q (F0 m (pc + 3) rls T) := by
    intro S T hg hT
    cases hg
    exact m_k0 K hl hT hr hS
  unfold mstep at hm
  dsimp only at hm
  exact lv_goto hx hb hd htg (hgo _ _ _ hm hs)

theorem o_if_eq {off : Int} (hx : p.tables.exec = Jvm.exec) (hb : c.code = cc) (hl : m_lr ads z nL ls rls) (hs : m_vrs ads z st rst) (hr : m_rep D A ads s h H) (hS : va_S A s.heap H locs) (hd : decode cc pc = .ok (.ifCond .eq off, 3)) (h0 : 0 ≤ (pc : Int) + off) (hm : mstep (.ifCond .eq off) q pc ls st h = .ok (pc', ls', st', h')) (K : m_K p l e R s m args below meth c Q nL c0 s0 D A z ads pc' ls' st' h') : W p l e R s m args below meth c H locs (h.2.2.1 - c0) (h.2.2.2 - s0) Q (F0 m pc rls rst) := by
  have htg : (pc : Int) + off = ((((pc : Int) + off).toNat : Nat) : Int) := by omega
  have hgo : ∀ (o : Int) (S : List MV) (T : List Value), m_go pc o ls S h = .ok (pc', ls', st', h') → m_vrs ads z S T → W p l e R s m args below meth c H locs (h.2.2.1 - c0) (h.2.2.2 - s0) Q (F0 m ((pc : Int) + o).toNat rls T) := by
    intro o S T hg hT
    unfold m_go at hg
    split at hg
    · cases hg
      exact m_k0 K hl hT hr hS
    · cases hg
  have hnx : ∀ (S : List MV) (T : List Value), (.ok (pc + 3, ls, S, h) : Except ME MS) = .ok (pc', ls', st', h') → m_vrs ads z S T → W p l e R s m args below meth c H locs (h.2.2.1 - c0) (h.2.2.2 - s0) Q (F0 m (pc + 3) rls T) := by
    intro S T hg hT
    cases hg
    exact m_k0 K hl hT hr hS
  unfold mstep at hm
  dsimp only at hm
  split at hm
  · next x r =>
    obtain ⟨X, r2, rfl, hX, hs2⟩ := m_s0 hs
    have hiff := m_ifeq X
    rw [hX] at hiff
    split at hm
    · next hc =>
      have k := hgo _ _ _ hm hs2
      exact lv_if_eq hx hb hd htg (fun _ => k) (fun z9 => absurd (hiff.mpr hc) z9)
    · next hc =>
      have k := hnx _ _ hm hs2
      exact lv_if_eq hx hb hd htg (fun z9 => absurd (hiff.mp z9) hc) (fun _ => k)
  · cases hm

theorem o_ic_eq {off : Int} (hx : p.tables.exec = Jvm.exec) (hb : c.code = cc) (hl : m_lr ads z nL ls rls) (hs : m_vrs ads z st rst) (hr : m_rep D A ads s h H) (hS : va_S A s.heap H locs) (hd : decode cc pc = .ok (.if_icmp .eq off, 3)) (h0 : 0 ≤ (pc : Int) + off) (hm : mstep (.if_icmp .eq off) q pc ls st h = .ok (pc', ls', st', h')) (K : m_K p l e R s m args below meth c Q nL c0 s0 D A z ads pc' ls' st' h') : W p l e R s m args below meth c H locs (h.2.2.1 - c0) (h.2.2.2 - s0) Q (F0 m pc rls rst) := by
  have htg : (pc : Int) + off = ((((pc : Int) + off).toNat : Nat) : Int) := by omega
  have hgo : ∀ (o : Int) (S : List MV) (T : List Value), m_go pc o ls S h = .ok (pc', ls', st', h') → m_vrs ads z S T → W p l e R s m args below meth c H locs (h.2.2.1 - c0) (h.2.2.2 - s0) Q (F0 m ((pc : Int) + o).toNat rls T) := by
    intro o S T hg hT
    unfold m_go at hg
    split at hg
    · cases hg
      exact m_k0 K hl hT hr hS
    · cases hg
  have hnx : ∀ (S : List MV) (T : List Value), (.ok (pc + 3, ls, S, h) : Except ME MS) = .ok (pc', ls', st', h') → m_vrs ads z S T → W p l e R s m args below meth c H locs (h.2.2.1 - c0) (h.2.2.2 - s0) Q (F0 m (pc + 3) rls T) := by
    intro S T hg hT
    cases hg
    exact m_k0 K hl hT hr hS
  unfold mstep at hm
  dsimp only at hm
  split at hm
  · next y x r =>
    obtain ⟨Y, r2, rfl, hY, hs2⟩ := m_s0 hs
    obtain ⟨X, r3, rfl, hX, hs3⟩ := m_s0 hs2
    have hiff := m_iceq X Y
    rw [hX, hY] at hiff
    split at hm
    · next hc =>
      have k := hgo _ _ _ hm hs3
      exact lv_icmp_eq hx hb hd htg (fun _ => k) (fun z9 => absurd (hiff.mpr hc) z9)
    · next hc =>
      have k := hnx _ _ hm hs3
      exact lv_icmp_eq hx hb hd htg (fun z9 => absurd (hiff.mp z9) hc) (fun _ => k)
  · cases hm

theorem o_if_ne {off : Int} (hx : p.tables.exec = Jvm.exec) (hb : c.code = cc) (hl : m_lr ads z nL ls rls) (hs : m_vrs ads z st rst) (hr : m_rep D A ads s h H) (hS : va_S A s.heap H locs) (hd : decode cc pc = .ok (.ifCond .ne off, 3)) (h0 : 0 ≤ (pc : Int) + off) (hm : mstep (.ifCond .ne off) q pc ls st h = .ok (pc', ls', st', h')) (K : m_K p l e R s m args below meth c Q nL c0 s0 D A z ads pc' ls' st' h') : W p l e R s m args below meth c H locs (h.2.2.1 - c0) (h.2.2.2 - s0) Q (F0 m pc rls rst) := by
  have htg : (pc : Int) + off = ((((pc : Int) + off).toNat : Nat) : Int) := by omega
  have hgo : ∀ (o : Int) (S : List MV) (T : List Value), m_go pc o ls S h = .ok (pc', ls', st', h') → m_vrs ads z S T → W p l e R s m args below meth c H locs (h.2.2.1 - c0) (h.2.2.2 - s0) Q (F0 m ((pc : Int) + o).toNat rls T) := by
    intro o S T hg hT
    unfold m_go at hg
    split at hg
    · cases hg
      exact m_k0 K hl hT hr hS
    · cases hg
  have hnx : ∀ (S : List MV) (T : List Value), (.ok (pc + 3, ls, S, h) : Except ME MS) = .ok (pc', ls', st', h') → m_vrs ads z S T → W p l e R s m args below meth c H locs (h.2.2.1 - c0) (h.2.2.2 - s0) Q (F0 m (pc + 3) rls T) := by
    intro S T hg hT
    cases hg
    exact m_k0 K hl hT hr hS
  unfold mstep at hm
  dsimp only at hm
  split at hm
  · next x r =>
    obtain ⟨X, r2, rfl, hX, hs2⟩ := m_s0 hs
    have hiff := m_ifne X
    rw [hX] at hiff
    split at hm
    · next hc =>
      have k := hnx _ _ hm hs2
      exact lv_if_ne hx hb hd htg (fun z9 => absurd hc (hiff.mp z9)) (fun _ => k)
    · next hc =>
      have k := hgo _ _ _ hm hs2
      exact lv_if_ne hx hb hd htg (fun _ => k) (fun z9 => absurd z9 (hiff.mpr hc))
  · cases hm

theorem o_ic_ne {off : Int} (hx : p.tables.exec = Jvm.exec) (hb : c.code = cc) (hl : m_lr ads z nL ls rls) (hs : m_vrs ads z st rst) (hr : m_rep D A ads s h H) (hS : va_S A s.heap H locs) (hd : decode cc pc = .ok (.if_icmp .ne off, 3)) (h0 : 0 ≤ (pc : Int) + off) (hm : mstep (.if_icmp .ne off) q pc ls st h = .ok (pc', ls', st', h')) (K : m_K p l e R s m args below meth c Q nL c0 s0 D A z ads pc' ls' st' h') : W p l e R s m args below meth c H locs (h.2.2.1 - c0) (h.2.2.2 - s0) Q (F0 m pc rls rst) := by
  have htg : (pc : Int) + off = ((((pc : Int) + off).toNat : Nat) : Int) := by omega
  have hgo : ∀ (o : Int) (S : List MV) (T : List Value), m_go pc o ls S h = .ok (pc', ls', st', h') → m_vrs ads z S T → W p l e R s m args below meth c H locs (h.2.2.1 - c0) (h.2.2.2 - s0) Q (F0 m ((pc : Int) + o).toNat rls T) := by
    intro o S T hg hT
    unfold m_go at hg
    split at hg
    · cases hg
      exact m_k0 K hl hT hr hS
    · cases hg
  have hnx : ∀ (S : List MV) (T : List Value), (.ok (pc + 3, ls, S, h) : Except ME MS) = .ok (pc', ls', st', h') → m_vrs ads z S T → W p l e R s m args below meth c H locs (h.2.2.1 - c0) (h.2.2.2 - s0) Q (F0 m (pc + 3) rls T) := by
    intro S T hg hT
    cases hg
    exact m_k0 K hl hT hr hS
  unfold mstep at hm
  dsimp only at hm
  split at hm
  · next y x r =>
    obtain ⟨Y, r2, rfl, hY, hs2⟩ := m_s0 hs
    obtain ⟨X, r3, rfl, hX, hs3⟩ := m_s0 hs2
    have hiff := m_icne X Y
    rw [hX, hY] at hiff
    split at hm
    · next hc =>
      have k := hnx _ _ hm hs3
      exact lv_icmp_ne hx hb hd htg (fun z9 => absurd hc (hiff.mp z9)) (fun _ => k)
    · next hc =>
      have k := hgo _ _ _ hm hs3
      exact lv_icmp_ne hx hb hd htg (fun _ => k) (fun z9 => absurd z9 (hiff.mpr hc))
  · cases hm

theorem o_if_lt {off : Int} (hx : p.tables.exec = Jvm.exec) (hb : c.code = cc) (hl : m_lr ads z nL ls rls) (hs : m_vrs ads z st rst) (hr : m_rep D A ads s h H) (hS : va_S A s.heap H locs) (hd : decode cc pc = .ok (.ifCond .lt off, 3)) (h0 : 0 ≤ (pc : Int) + off) (hm : mstep (.ifCond .lt off) q pc ls st h = .ok (pc', ls', st', h')) (K : m_K p l e R s m args below meth c Q nL c0 s0 D A z ads pc' ls' st' h') : W p l e R s m args below meth c H locs (h.2.2.1 - c0) (h.2.2.2 - s0) Q (F0 m pc rls rst) := by
  have htg : (pc : Int) + off = ((((pc : Int) + off).toNat : Nat) : Int) := by omega
  have hgo : ∀ (o : Int) (S : List MV) (T : List Value), m_go pc o ls S h = .ok (pc', ls', st', h') → m_vrs ads z S T → W p l e R s m args below meth c H locs (h.2.2.1 - c0) (h.2.2.2 - s0) Q (F0 m ((pc : Int) + o).toNat rls T) := by
    intro o S T hg hT
    unfold m_go at hg
    split at hg
    · cases hg
      exact m_k0 K hl hT hr hS
    · cases hg
  have hnx : ∀ (S : List MV) (T : List Value), (.ok (pc + 3, ls, S, h) : Except ME MS) = .ok (pc', ls', st', h') → m_vrs ads z S T → W p l e R s m args below meth c H locs (h.2.2.1 - c0) (h.2.2.2 - s0) Q (F0 m (pc + 3) rls T) := by
    intro S T hg hT
    cases hg
    exact m_k0 K hl hT hr hS
  unfold mstep at hm
  dsimp only at hm
  split at hm
  · next x r =>
    obtain ⟨X, r2, rfl, hX, hs2⟩ := m_s0 hs
    have hiff := m_iflt X
    rw [hX] at hiff
    split at hm
    · next hc =>
      have k := hgo _ _ _ hm hs2
      exact lv_if_lt hx hb hd htg (fun _ => k) (fun z9 => absurd (hiff.mpr hc) z9)
    · next hc =>
      have k := hnx _ _ hm hs2
      exact lv_if_lt hx hb hd htg (fun z9 => absurd (hiff.mp z9) hc) (fun _ => k)
  · cases hm

theorem o_ic_lt {off : Int} (hx : p.tables.exec = Jvm.exec) (hb : c.code = cc) (hl : m_lr ads z nL ls rls) (hs : m_vrs ads z st rst) (hr : m_rep D A ads s h H) (hS : va_S A s.heap H locs) (hd : decode cc pc = .ok (.if_icmp .lt off, 3)) (h0 : 0 ≤ (pc : Int) + off) (hm : mstep (.if_icmp .lt off) q pc ls st h = .ok (pc', ls', st', h')) (K : m_K p l e R s m args below meth c Q nL c0 s0 D A z ads pc' ls' st' h') : W p l e R s m args below meth c H locs (h.2.2.1 - c0) (h.2.2.2 - s0) Q (F0 m pc rls rst) := by
  have htg : (pc : Int) + off = ((((pc : Int) + off).toNat : Nat) : Int) := by omega
  have hgo : ∀ (o : Int) (S : List MV) (T : List Value), m_go pc o ls S h = .ok (pc', ls', st', h') → m_vrs ads z S T → W p l e R s m args below meth c H locs (h.2.2.1 - c0) (h.2.2.2 - s0) Q (F0 m ((pc : Int) + o).toNat rls T) := by
    intro o S T hg hT
    unfold m_go at hg
    split at hg
    · cases hg
      exact m_k0 K hl hT hr hS
    · cases hg
  have hnx : ∀ (S : List MV) (T : List Value), (.ok (pc + 3, ls, S, h) : Except ME MS) = .ok (pc', ls', st', h') → m_vrs ads z S T → W p l e R s m args below meth c H locs (h.2.2.1 - c0) (h.2.2.2 - s0) Q (F0 m (pc + 3) rls T) := by
    intro S T hg hT
    cases hg
    exact m_k0 K hl hT hr hS
  unfold mstep at hm
  dsimp only at hm
  split at hm
  · next y x r =>
    obtain ⟨Y, r2, rfl, hY, hs2⟩ := m_s0 hs
    obtain ⟨X, r3, rfl, hX, hs3⟩ := m_s0 hs2
    have hiff := m_iclt X Y
    rw [hX, hY] at hiff
    split at hm
    · next hc =>
      have k := hgo _ _ _ hm hs3
      exact lv_icmp_lt hx hb hd htg (fun _ => k) (fun z9 => absurd (hiff.mpr hc) z9)
    · next hc =>
      have k := hnx _ _ hm hs3
      exact lv_icmp_lt hx hb hd htg (fun z9 => absurd (hiff.mp z9) hc) (fun _ => k)
  · cases hm

theorem o_if_ge {off : Int} (hx : p.tables.exec = Jvm.exec) (hb : c.code = cc) (hl : m_lr ads z nL ls rls) (hs : m_vrs ads z st rst) (hr : m_rep D A ads s h H) (hS : va_S A s.heap H locs) (hd : decode cc pc = .ok (.ifCond .ge off, 3)) (h0 : 0 ≤ (pc : Int) + off) (hm : mstep (.ifCond .ge off) q pc ls st h = .ok (pc', ls', st', h')) (K : m_K p l e R s m args below meth c Q nL c0 s0 D A z ads pc' ls' st' h') : W p l e R s m args below meth c H locs (h.2.2.1 - c0) (h.2.2.2 - s0) Q (F0 m pc rls rst) := by
  have htg : (pc : Int) + off = ((((pc : Int) + off).toNat : Nat) : Int) := by omega
  have hgo : ∀ (o : Int) (S : List MV) (T : List Value), m_go pc o ls S h = .ok (pc', ls', st', h') → m_vrs ads z S T → W p l e R s m args below meth c H locs (h.2.2.1 - c0) (h.2.2.2 - s0) Q (F0 m ((pc : Int) + o).toNat rls T) := by
    intro o S T hg hT
    unfold m_go at hg
    split at hg
    · cases hg
      exact m_k0 K hl hT hr hS
    · cases hg
  have hnx : ∀ (S : List MV) (T : List Value), (.ok (pc + 3, ls, S, h) : Except ME MS) = .ok (pc', ls', st', h') → m_vrs ads z S T → W p l e R s m args below meth c H locs (h.2.2.1 - c0) (h.2.2.2 - s0) Q (F0 m (pc + 3) rls T) := by
    intro S T hg hT
    cases hg
    exact m_k0 K hl hT hr hS
  unfold mstep at hm
  dsimp only at hm
  split at hm
  · next x r =>
    obtain ⟨X, r2, rfl, hX, hs2⟩ := m_s0 hs
    have hiff := m_ifge X
    rw [hX] at hiff
    split at hm
    · next hc =>
      have k := hnx _ _ hm hs2
      exact lv_if_ge hx hb hd htg (fun z9 => absurd hc (hiff.mp z9)) (fun _ => k)
    · next hc =>
      have k := hgo _ _ _ hm hs2
      exact lv_if_ge hx hb hd htg (fun _ => k) (fun z9 => absurd (hiff.mpr hc) z9)
  · cases hm

theorem o_ic_ge {off : Int} (hx : p.tables.exec = Jvm.exec) (hb : c.code = cc) (hl : m_lr ads z nL ls rls) (hs : m_vrs ads z st rst) (hr : m_rep D A ads s h H) (hS : va_S A s.heap H locs) (hd : decode cc pc = .ok (.if_icmp .ge off, 3)) (h0 : 0 ≤ (pc : Int) + off) (hm : mstep (.if_icmp .ge off) q pc ls st h = .ok (pc', ls', st', h')) (K : m_K p l e R s m args below meth c Q nL c0 s0 D A z ads pc' ls' st' h') : W p l e R s m args below meth c H locs (h.2.2.1 - c0) (h.2.2.2 - s0) Q (F0 m pc rls rst) := by
  have htg : (pc : Int) + off = ((((pc : Int) + off).toNat : Nat) : Int) := by omega
  have hgo : ∀ (o : Int) (S : List MV) (T : List Value), m_go pc o ls S h = .ok (pc', ls', st', h') → m_vrs ads z S T → W p l e R s m args below meth c H locs (h.2.2.1 - c0) (h.2.2.2 - s0) Q (F0 m ((pc : Int) + o).toNat rls T) := by
    intro o S T hg hT
    unfold m_go at hg
    split at hg
    · cases hg
      exact m_k0 K hl hT hr hS
    · cases hg
  have hnx : ∀ (S : List MV) (T : List Value), (.ok (pc + 3, ls, S, h) : Except ME MS) = .ok (pc', ls', st', h') → m_vrs ads z S T → W p l e R s m args below meth c H locs (h.2.2.1 - c0) (h.2.2.2 - s0) Q (F0 m (pc + 3) rls T) := by
    intro S T hg hT
    cases hg
    exact m_k0 K hl hT hr hS
  unfold mstep at hm
  dsimp only at hm
  split at hm
  · next y x r =>
    obtain ⟨Y, r2, rfl, hY, hs2⟩ := m_s0 hs
    obtain ⟨X, r3, rfl, hX, hs3⟩ := m_s0 hs2
    have hiff := m_icge X Y
    rw [hX, hY] at hiff
    split at hm
    · next hc =>
      have k := hnx _ _ hm hs3
      exact lv_icmp_ge hx hb hd htg (fun z9 => absurd hc (hiff.mp z9)) (fun _ => k)
    · next hc =>
      have k := hgo _ _ _ hm hs3
      exact lv_icmp_ge hx hb hd htg (fun _ => k) (fun z9 => absurd (hiff.mpr hc) z9)
  · cases hm

theorem o_if_gt {off : Int} (hx : p.tables.exec = Jvm.exec) (hb : c.code = cc) (hl : m_lr ads z nL ls rls) (hs : m_vrs ads z st rst) (hr : m_rep D A ads s h H) (hS : va_S A s.heap H locs) (hd : decode cc pc = .ok (.ifCond .gt off, 3)) (h0 : 0 ≤ (pc : Int) + off) (hm : mstep (.ifCond .gt off) q pc ls st h = .ok (pc', ls', st', h')) (K : m_K p l e R s m args below meth c Q nL c0 s0 D A z ads pc' ls' st' h') : W p l e R s m args below meth c H locs (h.2.2.1 - c0) (h.2.2.2 - s0) Q (F0 m pc rls rst) := by
  have htg : (pc : Int) + off = ((((pc : Int) + off).toNat : Nat) : Int) := by omega
  have hgo : ∀ (o : Int) (S : List MV) (T : List Value), m_go pc o ls S h = .ok (pc', ls', st', h') → m_vrs ads z S T → W p l e R s m args below meth c H locs (h.2.2.1 - c0) (h.2.2.2 - s0) Q (F0 m ((pc : Int) + o).toNat rls T) := by
    intro o S T hg hT
    unfold m_go at hg
    split at hg
    · cases hg
      exact m_k0 K hl hT hr hS
    · cases hg
  have hnx : ∀ (S : List MV) (T : List Value), (.ok (pc + 3, ls, S, h) : Except ME MS) = .ok (pc', ls', st', h') → m_vrs ads z S T → W p l e R s m args below meth c H locs (h.2.2.1 - c0) (h.2.2.2 - s0) Q (F0 m (pc + 3) rls T) := by
    intro S T hg hT
    cases hg
    exact m_k0 K hl hT hr hS
  unfold mstep at hm
  dsimp only at hm
  split at hm
  · next x r =>
    obtain ⟨X, r2, rfl, hX, hs2⟩ := m_s0 hs
    have hiff := m_ifgt X
    rw [hX] at hiff
    split at hm
    · next hc =>
      have k := hgo _ _ _ hm hs2
      exact lv_if_gt hx hb hd htg (fun _ => k) (fun z9 => absurd (hiff.mpr hc) z9)
    · next hc =>
      have k := hnx _ _ hm hs2
      exact lv_if_gt hx hb hd htg (fun z9 => absurd (hiff.mp z9) hc) (fun _ => k)
  · cases hm

theorem o_ic_gt {off : Int} (hx : p.tables.exec = Jvm.exec) (hb : c.code = cc) (hl : m_lr ads z nL ls rls) (hs : m_vrs ads z st rst) (hr : m_rep D A ads s h H) (hS : va_S A s.heap H locs) (hd : decode cc pc = .ok (.if_icmp .gt off, 3)) (h0 : 0 ≤ (pc : Int) + off) (hm : mstep (.if_icmp .gt off) q pc ls st h = .ok (pc', ls', st', h')) (K : m_K p l e R s m args below meth c Q nL c0 s0 D A z ads pc' ls' st' h') : W p l e R s m args below meth c H locs (h.2.2.1 - c0) (h.2.2.2 - s0) Q (F0 m pc rls rst) := by
  have htg : (pc : Int) + off = ((((pc : Int) + off).toNat : Nat) : Int) := by omega
  have hgo : ∀ (o : Int) (S : List MV) (T : List Value), m_go pc o ls S h = .ok (pc', ls', st', h') → m_vrs ads z S T → W p l e R s m args below meth c H locs (h.2.2.1 - c0) (h.2.2.2 - s0) Q (F0 m ((pc : Int) + o).toNat rls T) := by
    intro o S T hg hT
    unfold m_go at hg
    split at hg
    · cases hg
      exact m_k0 K hl hT hr hS
    · cases hg
  have hnx : ∀ (S : List MV) (T : List Value), (.ok (pc + 3, ls, S, h) : Except ME MS) = .ok (pc', ls', st', h') → m_vrs ads z S T → W p l e R s m args below meth c H locs (h.2.2.1 - c0) (h.2.2.2 - s0) Q (F0 m (pc + 3) rls T) := by
    intro S T hg hT
    cases hg
    exact m_k0 K hl hT hr hS
  unfold mstep at hm
  dsimp only at hm
  split at hm
  · next y x r =>
    obtain ⟨Y, r2, rfl, hY, hs2⟩ := m_s0 hs
    obtain ⟨X, r3, rfl, hX, hs3⟩ := m_s0 hs2
    have hiff := m_icgt X Y
    rw [hX, hY] at hiff
    split at hm
    · next hc =>
      have k := hgo _ _ _ hm hs3
      exact lv_icmp_gt hx hb hd htg (fun _ => k) (fun z9 => absurd (hiff.mpr hc) z9)
    · next hc =>
      have k := hnx _ _ hm hs3
      exact lv_icmp_gt hx hb hd htg (fun z9 => absurd (hiff.mp z9) hc) (fun _ => k)
  · cases hm

theorem o_if_le {off : Int} (hx : p.tables.exec = Jvm.exec) (hb : c.code = cc) (hl : m_lr ads z nL ls rls) (hs : m_vrs ads z st rst) (hr : m_rep D A ads s h H) (hS : va_S A s.heap H locs) (hd : decode cc pc = .ok (.ifCond .le off, 3)) (h0 : 0 ≤ (pc : Int) + off) (hm : mstep (.ifCond .le off) q pc ls st h = .ok (pc', ls', st', h')) (K : m_K p l e R s m args below meth c Q nL c0 s0 D A z ads pc' ls' st' h') : W p l e R s m args below meth c H locs (h.2.2.1 - c0) (h.2.2.2 - s0) Q (F0 m pc rls rst) := by
  have htg : (pc : Int) + off = ((((pc : Int) + off).toNat : Nat) : Int) := by omega
  have hgo : ∀ (o : Int) (S : List MV) (T : List Value), m_go pc o ls S h = .ok (pc', ls', st', h') → m_vrs ads z S T → W p l e R s m args below meth c H locs (h.2.2.1 - c0) (h.2.2.2 - s0) Q (F0 m ((pc : Int) + o).toNat rls T) := by
    intro o S T hg hT
    unfold m_go at hg
    split at hg
    · cases hg
      exact m_k0 K hl hT hr hS
    · cases hg
  have hnx : ∀ (S : List MV) (T : List Value), (.ok (pc + 3, ls, S, h) : Except ME MS) = .ok (pc', ls', st', h') → m_vrs ads z S T → W p l e R s m args below meth c H locs (h.2.2.1 - c0) (h.2.2.2 - s0) Q (F0 m (pc + 3) rls T) := by
    intro S T hg hT
    cases hg
    exact m_k0 K hl hT hr hS
  unfold mstep at hm
  dsimp only at hm
  split at hm
  · next x r =>
    obtain ⟨X, r2, rfl, hX, hs2⟩ := m_s0 hs
    have hiff := m_ifle X
    rw [hX] at hiff
    split at hm
    · next hc =>
      have k := hnx _ _ hm hs2
      exact lv_if_le hx hb hd htg (fun z9 => absurd hc (hiff.mp z9)) (fun _ => k)
    · next hc =>
      have k := hgo _ _ _ hm hs2
      exact lv_if_le hx hb hd htg (fun _ => k) (fun z9 => absurd (hiff.mpr hc) z9)
  · cases hm

theorem o_ic_le {off : Int} (hx : p.tables.exec = Jvm.exec) (hb : c.code = cc) (hl : m_lr ads z nL ls rls) (hs : m_vrs ads z st rst) (hr : m_rep D A ads s h H) (hS : va_S A s.heap H locs) (hd : decode cc pc = .ok (.if_icmp .le off, 3)) (h0 : 0 ≤ (pc : Int) + off) (hm : mstep (.if_icmp .le off) q pc ls st h = .ok (pc', ls', st', h')) (K : m_K p l e R s m args below meth c Q nL c0 s0 D A z ads pc' ls' st' h') : W p l e R s m args below meth c H locs (h.2.2.1 - c0) (h.2.2.2 - s0) Q (F0 m pc rls rst) := by
  have htg : (pc : Int) + off = ((((pc : Int) + off).toNat : Nat) : Int) := by omega
  have hgo : ∀ (o : Int) (S : List MV) (T : List Value), m_go pc o ls S h = .ok (pc', ls', st', h') → m_vrs ads z S T → W p l e R s m args below meth c H locs (h.2.2.1 - c0) (h.2.2.2 - s0) Q (F0 m ((pc : Int) + o).toNat rls T) := by
    intro o S T hg hT
    unfold m_go at hg
    split at hg
    · cases hg
      exact m_k0 K hl hT hr hS
    · cases hg
  have hnx : ∀ (S : List MV) (T : List Value), (.ok (pc + 3, ls, S, h) : Except ME MS) = .ok (pc', ls', st', h') → m_vrs ads z S T → W p l e R s m args below meth c H locs (h.2.2.1 - c0) (h.2.2.2 - s0) Q (F0 m (pc + 3) rls T) := by
    intro S T hg hT
    cases hg
    exact m_k0 K hl hT hr hS
  unfold mstep at hm
  dsimp only at hm
  split at hm
  · next y x r =>
    obtain ⟨Y, r2, rfl, hY, hs2⟩ := m_s0 hs
    obtain ⟨X, r3, rfl, hX, hs3⟩ := m_s0 hs2
    have hiff := m_icle X Y
    rw [hX, hY] at hiff
    split at hm
    · next hc =>
      have k := hnx _ _ hm hs3
      exact lv_icmp_le hx hb hd htg (fun z9 => absurd hc (hiff.mp z9)) (fun _ => k)
    · next hc =>
      have k := hgo _ _ _ hm hs3
      exact lv_icmp_le hx hb hd htg (fun _ => k) (fun z9 => absurd (hiff.mpr hc) z9)
  · cases hm

theorem o_tswitch {dflt lo hi : Int} {offs : Array Int} {len : Nat} (hx : p.tables.exec = Jvm.exec) (hb : c.code = cc) (hl : m_lr ads z nL ls rls) (hs : m_vrs ads z st rst) (hr : m_rep D A ads s h H) (hS : va_S A s.heap H locs) (hd : decode cc pc = .ok (.tableswitch dflt lo hi offs, len)) (hm : mstep (.tableswitch dflt lo hi offs) q pc ls st h = .ok (pc', ls', st', h')) (K : m_K p l e R s m args below meth c Q nL c0 s0 D A z ads pc' ls' st' h') : W p l e R s m args below meth c H locs (h.2.2.1 - c0) (h.2.2.2 - s0) Q (F0 m pc rls rst) := by
  have hgo : ∀ (o : Int) (S : List MV) (T : List Value), m_go pc o ls S h = .ok (pc', ls', st', h') → m_vrs ads z S T → 0 ≤ (pc : Int) + o ∧ W p l e R s m args below meth c H locs (h.2.2.1 - c0) (h.2.2.2 - s0) Q (F0 m ((pc : Int) + o).toNat rls T) := by
    intro o S T hg hT
    unfold m_go at hg
    split at hg
    · next g0 =>
      cases hg
      exact ⟨g0, m_k0 K hl hT hr hS⟩
    · cases hg
  unfold mstep at hm
  dsimp only at hm
  split at hm
  · next x r =>
    obtain ⟨X, r2, rfl, hX, hs2⟩ := m_s0 hs
    split at hm
    · next hc =>
      obtain ⟨g0, k⟩ := hgo _ _ _ hm hs2
      exact lv_tableOut hx hb hd (by rw [hX]; exact hc) (by omega) k
    · next hc =>
      split at hm
      · next o ho =>
        obtain ⟨g0, k⟩ := hgo _ _ _ hm hs2
        exact lv_tableIn hx hb hd (by rw [hX]; omega) (by rw [hX]; omega) (by rw [hX, ← Array.getElem?_toList]; exact ho) (by omega) k
      · cases hm
  · cases hm
theorem o_land  (hx : p.tables.exec = Jvm.exec) (hb : c.code = cc) (hl : m_lr ads z nL ls rls) (hs : m_vrs ads z st rst) (hr : m_rep D A ads s h H) (hS : va_S A s.heap H locs) (hd : decode cc pc = .ok (.land, 1))  (hm : mstep (.land) q pc ls st h = .ok (pc', ls', st', h')) (K : m_K p l e R s m args below meth c Q nL c0 s0 D A z ads pc' ls' st' h') : W p l e R s m args below meth c H locs (h.2.2.1 - c0) (h.2.2.2 - s0) Q (F0 m pc rls rst) := by
  unfold mstep at hm
  dsimp only at hm
  unfold m_l2 at hm
  split at hm
  · next y x r =>
    cases hm
    obtain ⟨Y, r1, rfl, hY, hs1⟩ := m_s1 hs
    obtain ⟨X, r2, rfl, hX, hs2⟩ := m_s1 hs1
    refine lv_land hx hb hd ?_
    exact m_k0 K hl ⟨m_i1 (by rw [m_land6, hX, hY]), hs2⟩ hr hS
  · cases hm

theorem o_lor  (hx : p.tables.exec = Jvm.exec) (hb : c.code = cc) (hl : m_lr ads z nL ls rls) (hs : m_vrs ads z st rst) (hr : m_rep D A ads s h H) (hS : va_S A s.heap H locs) (hd : decode cc pc = .ok (.lor, 1))  (hm : mstep (.lor) q pc ls st h = .ok (pc', ls', st', h')) (K : m_K p l e R s m args below meth c Q nL c0 s0 D A z ads pc' ls' st' h') : W p l e R s m args below meth c H locs (h.2.2.1 - c0) (h.2.2.2 - s0) Q (F0 m pc rls rst) := by
  unfold mstep at hm
  dsimp only at hm
  unfold m_l2 at hm
  split at hm
  · next y x r =>
    cases hm
    obtain ⟨Y, r1, rfl, hY, hs1⟩ := m_s1 hs
    obtain ⟨X, r2, rfl, hX, hs2⟩ := m_s1 hs1
    refine lv_lor hx hb hd ?_
    exact m_k0 K hl ⟨m_i1 (by rw [m_lor6, hX, hY]), hs2⟩ hr hS
  · cases hm

theorem o_lxor  (hx : p.tables.exec = Jvm.exec) (hb : c.code = cc) (hl : m_lr ads z nL ls rls) (hs : m_vrs ads z st rst) (hr : m_rep D A ads s h H) (hS : va_S A s.heap H locs) (hd : decode cc pc = .ok (.lxor, 1))  (hm : mstep (.lxor) q pc ls st h = .ok (pc', ls', st', h')) (K : m_K p l e R s m args below meth c Q nL c0 s0 D A z ads pc' ls' st' h') : W p l e R s m args below meth c H locs (h.2.2.1 - c0) (h.2.2.2 - s0) Q (F0 m pc rls rst) := by
  unfold mstep at hm
  dsimp only at hm
  unfold m_l2 at hm
  split at hm
  · next y x r =>
    cases hm
    obtain ⟨Y, r1, rfl, hY, hs1⟩ := m_s1 hs
    obtain ⟨X, r2, rfl, hX, hs2⟩ := m_s1 hs1
    refine lv_lxor hx hb hd ?_
    exact m_k0 K hl ⟨m_i1 (by rw [m_lxor6, hX, hY]), hs2⟩ hr hS
  · cases hm

theorem o_lshl  (hx : p.tables.exec = Jvm.exec) (hb : c.code = cc) (hl : m_lr ads z nL ls rls) (hs : m_vrs ads z st rst) (hr : m_rep D A ads s h H) (hS : va_S A s.heap H locs) (hd : decode cc pc = .ok (.lshl, 1))  (hm : mstep (.lshl) q pc ls st h = .ok (pc', ls', st', h')) (K : m_K p l e R s m args below meth c Q nL c0 s0 D A z ads pc' ls' st' h') : W p l e R s m args below meth c H locs (h.2.2.1 - c0) (h.2.2.2 - s0) Q (F0 m pc rls rst) := by
  unfold mstep at hm
  dsimp only at hm
  split at hm
  · next y x r =>
    split at hm
    · next hy0 =>
      cases hm
      obtain ⟨Y, r1, rfl, hY, hs1⟩ := m_s0 hs
      obtain ⟨X, r2, rfl, hX, hs2⟩ := m_s1 hs1
      refine lv_lshl hx hb hd rfl ?_
      exact m_k0 K hl ⟨m_i1 (by rw [← hX, ← hY]; rw [← hY] at hy0; exact m_lshl6 X Y hy0.1 hy0.2), hs2⟩ hr hS
    · cases hm
  · cases hm

theorem o_lshr  (hx : p.tables.exec = Jvm.exec) (hb : c.code = cc) (hl : m_lr ads z nL ls rls) (hs : m_vrs ads z st rst) (hr : m_rep D A ads s h H) (hS : va_S A s.heap H locs) (hd : decode cc pc = .ok (.lshr, 1))  (hm : mstep (.lshr) q pc ls st h = .ok (pc', ls', st', h')) (K : m_K p l e R s m args below meth c Q nL c0 s0 D A z ads pc' ls' st' h') : W p l e R s m args below meth c H locs (h.2.2.1 - c0) (h.2.2.2 - s0) Q (F0 m pc rls rst) := by
  unfold mstep at hm
  dsimp only at hm
  split at hm
  · next y x r =>
    split at hm
    · next hy0 =>
      cases hm
      obtain ⟨Y, r1, rfl, hY, hs1⟩ := m_s0 hs
      obtain ⟨X, r2, rfl, hX, hs2⟩ := m_s1 hs1
      refine lv_lshr hx hb hd rfl ?_
      exact m_k0 K hl ⟨m_i1 (by rw [← hX, ← hY]; rw [← hY] at hy0; exact m_lshr6 X Y hy0.1 hy0.2), hs2⟩ hr hS
    · cases hm
  · cases hm

theorem o_l2i  (hx : p.tables.exec = Jvm.exec) (hb : c.code = cc) (hl : m_lr ads z nL ls rls) (hs : m_vrs ads z st rst) (hr : m_rep D A ads s h H) (hS : va_S A s.heap H locs) (hd : decode cc pc = .ok (.l2i, 1))  (hm : mstep (.l2i) q pc ls st h = .ok (pc', ls', st', h')) (K : m_K p l e R s m args below meth c Q nL c0 s0 D A z ads pc' ls' st' h') : W p l e R s m args below meth c H locs (h.2.2.1 - c0) (h.2.2.2 - s0) Q (F0 m pc rls rst) := by
  unfold mstep at hm
  dsimp only at hm
  split at hm
  · next x r =>
    cases hm
    obtain ⟨X, r2, rfl, hX, hs2⟩ := m_s1 hs
    refine lv_l2i hx hb hd rfl ?_
    exact m_k0 K hl ⟨m_i0 (by rw [← hX]; exact m_l2i6 X), hs2⟩ hr hS
  · cases hm

end M5
