/-! THE SMALL MACHINE IS RIGHT -/
def m_SIM (l : Launch) (f : Nat) : Prop := ∀ (d M pc : Nat) (ls : ML) (st : List MV) (h : MH) (o : Nat × List MV) (h' : MH), mx f d M pc ls st h = some (o, h') →
  ∀ (p : Program) (e : Jvm.Env) (R : Room) (s : State) (m : MethodId) (args : Array Value) (below : List Frame) (meth : Method) (c : Code) (Q : State → Prop) (c0 s0 : Nat) (D : va_G) (A : Nat → Prop) (z : m_Z) (ads : List Nat),
  m_CX p l s m args meth c A z M → m_sc z h → h'.2.1.length ≤ 1000000 → c0 ≤ h.2.2.1 → s0 ≤ h.2.2.2 → h'.2.2.1 - c0 ≤ R.cells → h'.2.2.2 - s0 ≤ R.slots → 10 + d ≤ R.frames → 300 + 100 * d ≤ R.locals →
  (∀ (pc : Nat) (ls : ML) (st : List MV) (h1 : MH), m_leaf M pc ls st h1 o h' → c0 ≤ h1.2.2.1 → s0 ≤ h1.2.2.2 → m_K p l e R s m args below meth c Q (m_mls.getD M 0) c0 s0 D A z ads pc ls st h1) →
  (∀ (x pc : Nat) (ls : ML), o = (x + 1, []) → m_hnd M pc x = none → m_KX p l e R s m args below meth c Q (m_mls.getD M 0) c0 s0 D A z ads pc ls x h') →
  m_K p l e R s m args below meth c Q (m_mls.getD M 0) c0 s0 D A z ads pc ls st h
theorem m_mok_ok {N : Nat} (h : m_mok N = true) : (m_knd N = 0 ∨ m_rok N = true) ∧ (m_w0 N ∈ lw_tbl ∧ goodWord (m_w0 N) = true) ∧ (Cond.initialized (m_y N).cls ∈ lw_tbl ∧ goodWord (Cond.initialized (m_y N).cls) = true) ∧ plainFor (m_y N) = true ∧ (plainName (m_y N).cls = true ∨ 421 ≤ N) ∧ (387 ≤ N ∨ m_raw N = []) ∧
    ((m_y N).cls ≠ "java/lang/invoke/MethodHandle" ∧ (m_y N).cls ≠ "java/lang/invoke/VarHandle") ∧ (∀ sig, parseMethodDescriptor (m_y N).desc = some sig → m_par N = sig.parameters.length) ∧ m_mls.getD N 0 ≤ 80 ∧
    (m_knd N = 0 → Cond.static (m_y N) ∈ lw_tbl ∧ goodWord (Cond.static (m_y N)) = true) ∧ (m_knd N = 1 → (Cond.instanceMethod (m_y N) ∈ lw_tbl ∧ goodWord (Cond.instanceMethod (m_y N)) = true) ∧ Cond.selects (m_y N).cls (m_y N) (m_y N) ∈ lw_tbl ∧ goodWord (Cond.selects (m_y N).cls (m_y N) (m_y N)) = true) ∧
    (m_knd N = 2 → (Cond.instanceMethod (m_y N) ∈ lw_tbl ∧ goodWord (Cond.instanceMethod (m_y N)) = true) ∧ (m_y N).name = "<init>" ∧ m_ret N = none) := by
  unfold m_mok at h
  simp only [Bool.and_eq_true, Bool.or_eq_true, beq_iff_eq, decide_eq_true_iff] at h
  obtain ⟨h0, h1, h2, ⟨h3, h4, h5⟩, h6, h7, h8, h9, h10⟩ := h
  refine ⟨h0, m_hasC_ok h1, m_has_ok h2, h3, h4, ?_, ⟨h6, h7⟩, ?_, h9, ?_, ?_, ?_⟩
  · rcases h5 with h5 | h5
    · exact Or.inl h5
    · exact Or.inr (List.isEmpty_iff.mp h5)
  · intro sig hs
    rw [hs] at h8
    exact (Option.some.inj h8).symm
  · intro hk
    rw [hk] at h10
    exact m_has_ok h10
  · intro hk
    rw [hk] at h10
    simp only [Bool.and_eq_true] at h10
    exact ⟨m_has_ok h10.1, m_has_ok h10.2⟩
  · intro hk
    rw [hk] at h10
    simp only [Bool.and_eq_true, decide_eq_true_iff] at h10
    exact ⟨m_has_ok h10.1, h10.2⟩
section M18
variable {l : Launch}
set_option maxHeartbeats 4000000 in
theorem m_met_ret {f d N : Nat} {xs vs : List MV} {h h1 : MH} {D : va_G} {A : Nat → Prop} {z : m_Z} {ads : List Nat} (hlst : l.stackTraces = false) (hck : ∀ (M pc : Nat) (i : Instr) (q : LK), (m_tb M)[pc]? = some (some (i, q)) → m_ick M pc i q = true) (IH : m_SIM l f) (hN : m_mok N = true)
    (hm : mx f d N 0 (m_ini (m_mls.getD N 0) xs) [] h = some ((0, vs), h1)) (hxs : m_cats xs ≤ m_mls.getD N 0) (hsc : m_sc z h) (hlen : h1.2.1.length ≤ 1000000) :
    Met l (m_y N) (m_w0 N :: m_gw) (m_rm d (h1.2.2.1 - h.2.2.1) (h1.2.2.2 - h.2.2.2)) (m_Pc D A z ads xs h) (m_Qc D A z ads vs h1) (h1.2.2.1 - h.2.2.1) (h1.2.2.2 - h.2.2.2) A := by
  obtain ⟨-, hw0, hini, hpf, hpn, hraw0, hne, hpar, h80, -⟩ := m_mok_ok hN
  have core : ∀ p e s m args below meth c s₁, BodyLoose p l (m_y N) (headSpec (m_w0 N :: m_gw) (m_rm d (h1.2.2.1 - h.2.2.1) (h1.2.2.2 - h.2.2.2))) (m_cc N) (m_mls.getD N 0) (m_ret N) e s m args below meth c s₁ → c.maxLocals = m_mls.getD N 0 → c.exceptionTable.toList = tableOf (m_raw N) → m_Pc D A z ads xs h args s →
      W p l e (headSpec (m_w0 N :: m_gw) (m_rm d (h1.2.2.1 - h.2.2.1) (h1.2.2.2 - h.2.2.2))).room s m args below meth c s.heap [] 0 0 (MQ below (m_Qc D A z ads vs h1) args s (h1.2.2.1 - h.2.2.1) (h1.2.2.2 - h.2.2.2) A) (entryFrame m args (m_mls.getD N 0)) := by
    intro p e s m args below meth c s₁ B hml htab hP
    obtain ⟨⟨rs, rfl, hrs⟩, hr, hE⟩ := hP
    have hts0 := atoms_spec (ws := m_w0 N :: m_gw) B.pre
    have hts : ∀ w ∈ lw_tbl, goodWord w = true → w.before rs.toArray s = true := fun w h2 h3 => hts0 w (List.mem_cons_of_mem _ (List.mem_filter.mpr ⟨h2, h3⟩))
    have hown : s.vm.findClass (m_y N).cls = some m.cls := findClass_of_methodNamed B.named
    have CX : m_CX p l s m rs.toArray meth c A z N := ⟨B.exec, B.bytes, hml, hown, hts, hE, B.notSynchronized, fun _ => (name_of_methodNamed B.named B.method).1, fun _ => htab, B.returns, hlst⟩
    rw [lg_entry_eq]
    have k := IH d N 0 _ [] h (0, vs) h1 hm p e (m_rm d (h1.2.2.1 - h.2.2.1) (h1.2.2.2 - h.2.2.2)) s m rs.toArray below meth c (MQ below (m_Qc D A z ads vs h1) rs.toArray s (h1.2.2.1 - h.2.2.1) (h1.2.2.2 - h.2.2.2) A) h.2.2.1 h.2.2.2 D A z ads CX hsc hlen (Nat.le_refl _) (Nat.le_refl _) (Nat.le_refl _) (Nat.le_refl _) (Nat.le_refl _) (Nat.le_refl _)
      (by
        rintro pc ls st h9 ⟨i, q, ht, hcase⟩ hc9 hs9
        rcases hcase with ⟨a, xs9, r, hmm, ho, rfl⟩ | ⟨x, xs9, r, hmm, ho, -⟩
        · cases ho
          intro b rls rst H locs hl hs hr hS
          exact m_rets CX (hck _ _ _ _ ht) hs hr hS hmm
        · cases ho)
      (by intro x pc ls ho; cases ho)
    have k2 := m_k0 k (m_ini_lr hrs hxs) (show m_vrs ads z [] [] from trivial) hr va_S.rf
    rw [Nat.sub_self, Nat.sub_self] at k2
    exact k2
  cases hraw : m_raw N with
  | nil =>
    have e0 : m_w0 N = .code (m_y N) (m_cc N) (m_mls.getD N 0) (m_ret N) := by unfold m_w0; rw [hraw]
    refine va_MetF (cc := m_cc N) (maxL := m_mls.getD N 0) (ret := m_ret N) hpf (by rw [e0]) ?_
    intro p e s m args below meth c s₁ B hml hP
    refine core p e s m args below meth c s₁ B hml ?_ hP
    obtain ⟨meth9, c9, q1, q2, -, -, -, -, q7, -⟩ := Cond.code_spec B.named (atoms_spec (ws := m_w0 N :: m_gw) B.pre _ (by rw [e0]; exact List.mem_cons_self))
    cases Option.some.inj (q1.symm.trans B.method)
    cases Option.some.inj (q2.symm.trans (Stand.of_body B).code)
    rw [hraw, Array.isEmpty_iff.mp q7]
    rfl
  | cons t0 tt =>
    have e0 : m_w0 N = .codeWith (m_y N) (m_cc N) (m_mls.getD N 0) (m_ret N) (m_raw N) := by unfold m_w0; rw [hraw]
    have hp : plainName (m_y N).cls = true := by
      rcases hpn with hp | hp
      · exact hp
      · exfalso
        have := m_hoks (M := N)
        unfold m_hok at this
        simp only [Bool.and_eq_true, Bool.or_eq_true, decide_eq_true_iff] at this
        rcases this.2.2 with h9 | h9
        · rw [this.1, List.isEmpty_iff.mp h9] at hraw
          cases hraw
        · have h10 : ∀ k, k < 18 → (m_y (421 + k)).cls ≠ "SyntaxspanLaw" := by decide +kernel
          by_cases h11 : N < 439
          · have := h10 (N - 421) (by omega)
            rw [show 421 + (N - 421) = N by omega] at this
            exact this h9
          · have : m_raw N = [] := by
              unfold m_raw m_md
              rw [List.getD_eq_getElem?_getD, List.getElem?_eq_none (by rw [m_mdsl]; omega)]
              rfl
            rw [this] at hraw
            cases hraw
    refine va_MetW (hh := m_raw N) (cc := m_cc N) (maxL := m_mls.getD N 0) (ret := m_ret N) hp (by rw [e0]) ?_
    intro p e s m args below meth c s₁ B hml hP
    exact core p e s m args below meth c s₁ B hml (vx_table (x := m_y N) B (atoms_spec (ws := m_w0 N :: m_gw) B.pre _ (by rw [e0]; exact List.mem_cons_self))) hP
set_option maxHeartbeats 4000000 in
theorem m_met_thr {f d N x : Nat} {xs vs : List MV} {h h1 : MH} {D : va_G} {A : Nat → Prop} {z : m_Z} {ads : List Nat} (hlst : l.stackTraces = false) (hck : ∀ (M pc : Nat) (i : Instr) (q : LK), (m_tb M)[pc]? = some (some (i, q)) → m_ick M pc i q = true) (IH : m_SIM l f) (hN : m_mok N = true) (hN2 : N < 387)
    (hm : mx f d N 0 (m_ini (m_mls.getD N 0) xs) [] h = some ((x + 1, vs), h1)) (hxs : m_cats xs ≤ m_mls.getD N 0) (hsc : m_sc z h) (hlen : h1.2.1.length ≤ 1000000) :
    vx_Met l (m_y N) (m_w0 N :: m_gw) (m_rm d (h1.2.2.1 - h.2.2.1) (h1.2.2.2 - h.2.2.2)) (m_Pc D A z ads xs h) (fun _ _ _ _ => False) (m_Xc D A ads x h1) (h1.2.2.1 - h.2.2.1) (h1.2.2.2 - h.2.2.2) A := by
  obtain ⟨-, hw0, hini, hpf, hpn, hraw0, hne, hpar, h80, -⟩ := m_mok_ok hN
  have hraw : m_raw N = [] := by
    rcases hraw0 with h9 | h9
    · omega
    · exact h9
  have hp : plainName (m_y N).cls = true := by
    rcases hpn with h9 | h9
    · exact h9
    · omega
  have e0 : m_w0 N = .code (m_y N) (m_cc N) (m_mls.getD N 0) (m_ret N) := by unfold m_w0; rw [hraw]
  refine vx_ofW (cc := m_cc N) (maxL := m_mls.getD N 0) (ret := m_ret N) hp (by rw [e0]) ?_
  intro p e s m args below meth c s₁ B hml hno hP
  have htab : c.exceptionTable.toList = tableOf (m_raw N) := by
    rw [hraw]
    exact List.eq_nil_iff_forall_not_mem.mpr hno
  obtain ⟨⟨rs, rfl, hrs⟩, hr, hE⟩ := hP
  have hts0 := atoms_spec (ws := m_w0 N :: m_gw) B.pre
  have hts : ∀ w ∈ lw_tbl, goodWord w = true → w.before rs.toArray s = true := fun w h2 h3 => hts0 w (List.mem_cons_of_mem _ (List.mem_filter.mpr ⟨h2, h3⟩))
  have hown : s.vm.findClass (m_y N).cls = some m.cls := findClass_of_methodNamed B.named
  have CX : m_CX p l s m rs.toArray meth c A z N := ⟨B.exec, B.bytes, hml, hown, hts, hE, B.notSynchronized, fun _ => (name_of_methodNamed B.named B.method).1, fun _ => htab, B.returns, hlst⟩
  rw [lg_entry_eq]
  have k := IH d N 0 _ [] h (x + 1, vs) h1 hm p e (m_rm d (h1.2.2.1 - h.2.2.1) (h1.2.2.2 - h.2.2.2)) s m rs.toArray below meth c (vx_MQ below (fun _ _ _ _ => False) (m_Xc D A ads x h1) rs.toArray s (h1.2.2.1 - h.2.2.1) (h1.2.2.2 - h.2.2.2) A) h.2.2.1 h.2.2.2 D A z ads CX hsc hlen (Nat.le_refl _) (Nat.le_refl _) (Nat.le_refl _) (Nat.le_refl _) (Nat.le_refl _) (Nat.le_refl _)
    (by
      rintro pc ls st h9 ⟨i, q, ht, hcase⟩ hc9 hs9
      rcases hcase with ⟨a, xs9, r, hmm, ho, -⟩ | ⟨x9, xs9, r, hmm, ho, rfl⟩
      · cases ho
      · cases ho
        intro b rls rst H locs hl hs hr hS
        exact m_throws CX (by omega) hraw (hck _ _ _ _ ht) hl hs hr hS hc9 hs9 (Nat.le_refl _) (Nat.le_refl _) (by show 10 ≤ 10 + d; omega) (by show 300 ≤ 300 + 100 * d; omega) hmm)
    (by
      intro x9 pc ls ho hh
      cases ho
      intro b rls rest H locs q ce hl hr hS hce hcv hcl
      exact vx_out (E := m_exn x) (by rw [htab, hraw]; intro y hy; cases hy) B.notSynchronized hce hcv hcl (fun t ht hal => ⟨rfl, b, by rw [ht]; exact hr.moved hal, m_F hS ht⟩) hS.2.2 (Nat.le_refl _) (Nat.le_refl _))
  have k2 := m_k0 k (m_ini_lr hrs hxs) (show m_vrs ads z [] [] from trivial) hr va_S.rf
  rw [Nat.sub_self, Nat.sub_self] at k2
  exact k2
end M18
