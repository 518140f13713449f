/-! CALLS OF THE SMALL MACHINE: what a method is told, and what it owes -/
def m_gw : List Cond := lw_tbl.filter goodWord
def m_exl : List String := ["java/lang/IndexOutOfBoundsException", "java/lang/IllegalArgumentException", "java/lang/IllegalStateException"]
def m_exn (e : Nat) : String := m_exl.getD e ""
def m_xs (z : m_Z) (A : Nat → Prop) (U : State) (H : Heap) : Prop := va_X z.2.2.1 z.2.2.2.1 z.2.2.2.2 U H ∧ z.2.2.1 < H.size ∧ ¬ A z.2.2.1 ∧ z.2.2.2.1 ≤ 2560
def m_ext (z : m_Z) (A : Nat → Prop) (U : State) : Prop := (∀ w ∈ lw_tbl, m_nest w = true → va_Nw w U) ∧ m_old z A U U.heap ∧ (∀ q, U.heap.size ≤ q → A q) ∧ (∀ e1 e2, e1 < 3 → e2 < 3 → e1 ≠ e2 → va_Nc (m_exn e1) (m_exn e2) U) ∧ m_xs z A U U.heap
def m_Pc (D : va_G) (A : Nat → Prop) (z : m_Z) (ads : List Nat) (xs : List MV) (h : MH) : Array Value → State → Prop := fun av U => (∃ rs : List Value, av = rs.toArray ∧ m_vrs ads z xs rs) ∧ m_rep D A ads U h U.heap ∧ m_ext z A U
def m_Qc (D : va_G) (A : Nat → Prop) (z : m_Z) (ads : List Nat) (vs : List MV) (h : MH) : Array Value → State → Outcome → State → Prop := fun _ st o t => ∃ (b : List Nat) (r : Option Value), o = .returned r ∧ m_vrs (ads ++ b) z vs r.toList ∧ m_rep D A (ads ++ b) t h t.heap ∧ va_F A st t
def m_Xc (D : va_G) (A : Nat → Prop) (ads : List Nat) (e : Nat) (h : MH) : String → State → State → Prop := fun E st t => E = m_exn e ∧ ∃ b : List Nat, m_rep D A (ads ++ b) t h t.heap ∧ va_F A st t
def m_rm (d mc ms : Nat) : Room := { frames := 10 + d, cells := mc, slots := ms, locals := 300 + 100 * d }
theorem m_rep.moved {D : va_G} {A : Nat → Prop} {ads : List Nat} {u U : State} {h : MH} {H : Heap} (hvm : u.vm.Alike U.vm) (hr : m_rep D A ads u h H) : m_rep D A ads U h H := by
  obtain ⟨ws, tys, hK, r⟩ := hr
  exact ⟨ws, tys, hK.moved hvm, r⟩
theorem m_nest_warm {s U : State} {w : Cond} (hn : m_nest w = true) (hW : s.WarmedH U.vm) (h : va_Nw w s) : va_Nw w U := by
  unfold m_nest at hn
  split at hn
  · exact va_Nw.warmF hW h
  · exact va_Nw.warmM hW h
  · exact va_Nw.warmC hW h
  · exact va_Nw.warmD hW h
  · exact va_AO.moved hW.alike h
  · cases hn
theorem m_nest_call {U : State} {w : Cond} {g : JFrame} {mk : MethodId} {a : Array Value} (hn : m_nest w = true) (h : va_Nw w U) : va_Nw w (U.calling g mk a) := by
  unfold m_nest at hn
  split at hn
  · exact va_Nw.same rfl (u := U) (U := U.calling g mk a) rfl h
  · exact va_Nw.same rfl (u := U) (U := U.calling g mk a) rfl h
  · exact va_Nw.same rfl (u := U) (U := U.calling g mk a) rfl h
  · exact va_Nw.same rfl (u := U) (U := U.calling g mk a) rfl h
  · exact va_AO.moved (u := U) (U := U.calling g mk a) (Vm.Alike.refl U.vm) h
  · cases hn
theorem m_ext.warm {z : m_Z} {A : Nat → Prop} {s U : State} (hW : s.WarmedH U.vm) (h : m_ext z A s) (hz : s.heap.size ≤ U.heap.size) (hk : ∀ a : Nat, a < s.heap.size → ¬ A a → U.heap[a]? = s.heap[a]?) : m_ext z A U :=
  ⟨fun w hw hn => m_nest_warm hn hW (h.1 w hw hn), (h.2.1.kept hk).moved hW.alike (fun i q hq hR => hR.warm hW), fun q hq => h.2.2.1 q (Nat.le_trans hz hq), fun e1 e2 a b c => (h.2.2.2.1 e1 e2 a b c).moved hW.alike, (h.2.2.2.2.1.kept (hk _ h.2.2.2.2.2.1 h.2.2.2.2.2.2.1)).moved hW.alike, Nat.lt_of_lt_of_le h.2.2.2.2.2.1 hz, h.2.2.2.2.2.2.1, h.2.2.2.2.2.2.2⟩
theorem m_Pc.blind (D : va_G) (A : Nat → Prop) (z : m_Z) (ads : List Nat) (xs : List MV) (h : MH) : FrameBlind (m_Pc D A z ads xs h) := by
  intro a U g mk q
  obtain ⟨q1, q2, q3⟩ := q
  refine ⟨q1, m_rep.moved (u := U) (U := U.calling g mk a) (Vm.Alike.refl U.vm) q2, ?_⟩
  obtain ⟨e1, e2, e3, e4, e5⟩ := q3
  exact ⟨fun w hw hn => m_nest_call hn (e1 w hw hn),
    m_old.moved (u := U) (U := U.calling g mk a) (H := U.heap) (Vm.Alike.refl U.vm) (fun i q hq hR => vk_R.same (u := U) (U := U.calling g mk a) rfl hR) e2, e3,
    fun a1 a2 b1 b2 b3 => (e4 a1 a2 b1 b2 b3).moved (u := U) (U := U.calling g mk a) (Vm.Alike.refl U.vm), e5.1.moved (u := U) (U := U.calling g mk a) (Vm.Alike.refl U.vm), e5.2.1, e5.2.2.1, e5.2.2.2⟩
section M11
variable {p : Program} {l : Launch} {e : Jvm.Env} {R : Room} {s : State} {m : MethodId} {args : Array Value} {below : List Frame} {meth : Method} {c : Code} {Q : State → Prop} {cc : ByteArray} {own : String} {nL c0 s0 : Nat} {D : va_G} {A : Nat → Prop} {z : m_Z} {ads : List Nat} {q : LK} {pc pc' : Nat} {ls ls' : ML} {st st' : List MV} {h h' : MH} {rls : Array Slot} {rst : List Value} {H : Heap} {locs : List Loc}
theorem m_PcU {xs : List MV} {rs : List Value} (hx : m_vrs ads z xs rs) (hr : m_rep D A ads s h H) (hE : m_ext z A s) (hS : va_S A s.heap H locs) : ∀ U : State, U.heap = H → s.WarmedH U.vm → m_Pc D A z ads xs h rs.toArray U := by
  intro U hU hW
  refine ⟨⟨rs, rfl, hx⟩, ?_, ?_⟩
  · rw [hU]
    exact hr.moved hW.alike
  · exact m_ext.warm hW hE (by rw [hU]; exact hS.1) (fun a h1 h2 => by rw [hU]; exact hS.2.1 a h1 h2)
theorem m_split {n : Nat} (hn : n ≤ st.length) (hs : m_vrs ads z st rst) : ∃ vs : List Value, rst = vs.reverse ++ rst.drop n ∧ m_vrs ads z (st.take n).reverse vs ∧ m_vrs ads z (st.drop n) (rst.drop n) ∧ vs.length = n := by
  refine ⟨(rst.take n).reverse, by rw [List.reverse_reverse, List.take_append_drop], m_vrs_rev (m_vrs_take n hs), m_vrs_drop n hs, ?_⟩
  rw [List.length_reverse, List.length_take, m_vrs_len hs]
  omega
theorem m_after {cells slots mc ms : Nat} {r vs : List MV} {rest : List Value} {a : Array Value} {g0 : List Value} (hr : va_Run p l e R s m args below meth c H locs cells slots mc ms (F0 m pc rls g0) rest (m_Qc D A z ads vs h' a) A) (hS : va_S A s.heap H locs)
    (hl : m_lr ads z nL ls rls) (hrest : m_vrs ads z r rest) (hc : cells + mc = h'.2.2.1 - c0) (hs : slots + ms = h'.2.2.2 - s0) (hs8 : s.heap.size ≤ H.size)
    (K : m_K p l e R s m args below meth c Q nL c0 s0 D A z ads (pc + 3) ls (vs ++ r) h') : W p l e R s m args below meth c H locs cells slots Q (F0 m pc rls g0) := by
  intro T hT X
  obtain ⟨v, st0, t, T', L, h0, X', hL, e1, e2, ⟨b, r2, hv, hvs, hrep, hF⟩, st⟩ := hr T hT X
  cases hv
  obtain ⟨k1, k2, k3⟩ := vx_keep (A1 := A) h0 e1 hS (fun _ _ h => h) (fun _ h => h) hL hF
  have hrep2 : m_rep D A (ads ++ b) s h' T'.heap := by
    rw [e1]
    exact hrep.moved (by rw [← e2]; exact X'.warmed.alike.symm)
  rw [hc, hs] at X'
  obtain ⟨t2, a1, b1⟩ := K b rls (v.toList ++ rest) T'.heap (locs ++ L) (m_lr_up b hl) (m_vrs_app hvs (m_vrs_up b hrest)) hrep2 k3 T' rfl X'
  exact ⟨t2, st t2 a1, b1⟩
/-- what is known behind an exception that came out of a call -/
def m_KX (p : Program) (l : Launch) (e : Jvm.Env) (R : Room) (s : State) (m : MethodId) (args : Array Value) (below : List Frame) (meth : Method) (c : Code) (Q : State → Prop) (nL c0 s0 : Nat) (D : va_G) (A : Nat → Prop) (z : m_Z) (ads : List Nat) (pc : Nat) (ls : ML) (x : Nat) (h : MH) : Prop :=
  ∀ (b : List Nat) (rls : Array Slot) (rest : List Value) (H : Heap) (locs : List Loc) (q : Addr) (ce : Cell), m_lr (ads ++ b) z nL ls rls → m_rep D A (ads ++ b) s h H → va_S A s.heap H locs → H[q]? = some ce → ce.vm = .none → s.vm.findClass (m_exn x) = some ce.cls →
    vx_W p l e R s m args below meth c H locs (h.2.2.1 - c0) (h.2.2.2 - s0) Q (F0 m pc rls rest) q
theorem m_afterX {cells slots mc ms : Nat} {rest : List Value} {g0 : List Value} {x : Nat} {Qa : State → Outcome → State → Prop} (hr : vx_Run p l e R s m args below meth c H locs cells slots mc ms (F0 m pc rls g0) rest Qa (m_Xc D A ads x h') A) (hno : ∀ st o t, ¬ Qa st o t) (hS : va_S A s.heap H locs)
    (hl : m_lr ads z nL ls rls) (hc : cells + mc = h'.2.2.1 - c0) (hs : slots + ms = h'.2.2.2 - s0)
    (K : m_KX p l e R s m args below meth c Q nL c0 s0 D A z ads pc ls x h') : W p l e R s m args below meth c H locs cells slots Q (F0 m pc rls g0) := by
  intro T hT X
  rcases hr T hT X with ⟨v, st0, t, T', L, h0, X', hL, e1, e2, hq, st⟩ | ⟨q9, st0, t, T', L, E, ce, h0, X', hL, e1, e2, ⟨rfl, b, hrep, hF⟩, hce, hcv, hcl, st⟩
  · exact absurd hq (hno _ _ _)
  · obtain ⟨k1, k2, k3⟩ := vx_keep (A1 := A) h0 e1 hS (fun _ _ h => h) (fun _ h => h) hL hF
    have hrep2 : m_rep D A (ads ++ b) s h' T'.heap := by
      rw [e1]
      exact hrep.moved (by rw [← e2]; exact X'.warmed.alike.symm)
    rw [hc, hs] at X'
    obtain ⟨t2, a1, b1⟩ := K b rls rest T'.heap (locs ++ L) q9 ce (m_lr_up b hl) hrep2 k3 (by rw [e1]; exact hce) hcv hcl T' rfl X'
    exact ⟨t2, st.trans a1, b1⟩
/-- the words of a method: its own code, and the tables' good ones -/
theorem m_goodGw {w : Cond} (h : w ∈ m_gw) : w ∈ lw_tbl ∧ goodWord w = true := by
  unfold m_gw at h
  rw [List.mem_filter] at h
  exact h
theorem m_gwIn {w0 : Cond} (h1 : w0 ∈ lw_tbl) (h2 : goodWord w0 = true) : GoodIn lw_tbl (w0 :: m_gw) := by
  intro w hw
  rcases List.mem_cons.mp hw with rfl | hw
  · exact ⟨h1, good_of_word h2⟩
  · obtain ⟨a, b⟩ := m_goodGw hw
    exact ⟨a, good_of_word b⟩
theorem m_pay {w0 : Cond} (hts : ∀ w ∈ lw_tbl, goodWord w = true → w.before args s = true) (h1 : w0 ∈ lw_tbl) (h2 : goodWord w0 = true) : ∀ w ∈ w0 :: m_gw, ∀ (a' : Array Value) (U : State), s.WarmedH U.vm → w.before a' U = true := by
  intro w hw a' U hW
  have : w ∈ lw_tbl ∧ goodWord w = true := by
    rcases List.mem_cons.mp hw with rfl | hw
    · exact ⟨h1, h2⟩
    · exact m_goodGw hw
  exact word_at hW (good_of_word this.2) (hts w this.1 this.2)
end M11
