/-! EVERY STEP OF THE SMALL MACHINE OVER THE MACHINE -/
def m_CX (p : Program) (l : Launch) (s : State) (m : MethodId) (args : Array Value) (meth : Method) (c : Code) (A : Nat → Prop) (z : m_Z) (M : Nat) : Prop :=
  p.tables.exec = Jvm.exec ∧ c.code = m_cc M ∧ c.maxLocals = m_mls.getD M 0 ∧ s.vm.findClass (m_y M).cls = some m.cls ∧ (∀ w ∈ lw_tbl, goodWord w = true → w.before args s = true) ∧ m_ext z A s ∧ meth.locks = false ∧ (M ≠ 420 → meth.name = (m_y M).name) ∧ (M ≠ 420 → c.exceptionTable.toList = tableOf (m_raw M)) ∧ meth.sig.returnType = m_ret M ∧ l.stackTraces = false
def m_sc (z : m_Z) (h : MH) : Prop := h.1 1000001 0 = (z.2.2.2.1 : Int) ∧ ∀ j, j < z.2.2.2.1 → h.1 1000000 j = (z.2.2.2.2 j).toInt
theorem m_dcd_ok {cc : ByteArray} {pc : Nat} {i : Instr} (h : m_dcd cc pc i = true) (hT : m_isT i = false) : decode cc pc = .ok (i, m_ln i) := by
  unfold m_dcd at h
  split at h
  · next j n hj =>
    rw [Bool.and_eq_true, decide_eq_true_iff, hT, Bool.or_false, beq_iff_eq] at h
    rw [hj, h.1, h.2]
  · cases h
theorem m_dcd_T {cc : ByteArray} {pc : Nat} {i : Instr} (h : m_dcd cc pc i = true) : ∃ n, decode cc pc = .ok (i, n) := by
  unfold m_dcd at h
  split at h
  · next j n hj =>
    rw [Bool.and_eq_true, decide_eq_true_iff] at h
    exact ⟨n, by rw [hj, h.1]⟩
  · cases h
theorem m_rng32_ok {v : Int} (h : m_rng32 v = true) : -2147483648 ≤ v ∧ v < 2147483648 := by
  unfold m_rng32 at h
  rwa [Bool.and_eq_true, decide_eq_true_iff, decide_eq_true_iff] at h
theorem m_nw {s : State} {args : Array Value} {w : Cond} {z : m_Z} {A : Nat → Prop} (hE : m_ext z A s) (h : w ∈ lw_tbl ∧ m_nest w = true) (hw : w.onTables = true) : w.before args s = true := va_Nw.use hw (hE.1 w h.1 h.2)
theorem m_arrw : Cond.arrayClass .int ∈ lw_tbl ∧ Cond.arrayClass .long ∈ lw_tbl ∧ Cond.arrayClass .char ∈ lw_tbl ∧ Cond.arrayClass .boolean ∈ lw_tbl := ⟨List.mem_of_getElem? (i := 110) (by decide +kernel), List.mem_of_getElem? (i := 406) (by decide +kernel), List.mem_of_getElem? (i := 109) (by decide +kernel), List.mem_of_getElem? (i := 182) (by decide +kernel)⟩
theorem m_miscw : (Cond.instanceMethod Lib.objectInit ∈ lw_tbl ∧ goodWord (Cond.instanceMethod Lib.objectInit) = true) ∧ (Cond.code Lib.objectInit ⟨#[0xb1]⟩ 1 none ∈ lw_tbl ∧ goodWord (Cond.code Lib.objectInit ⟨#[0xb1]⟩ 1 none) = true) ∧ (Cond.native arraycopyName ∈ lw_tbl ∧ goodWord (Cond.native arraycopyName) = true) ∧ (Cond.static arraycopyName ∈ lw_tbl ∧ goodWord (Cond.static arraycopyName) = true) ∧ (Cond.initialized "java/lang/System" ∈ lw_tbl ∧ goodWord (Cond.initialized "java/lang/System") = true) :=
  ⟨m_has_ok (j := 84) (by decide +kernel), m_has_ok (j := 85) (by decide +kernel), m_has_ok (j := 644) (by decide +kernel), m_has_ok (j := 643) (by decide +kernel), m_has_ok (j := 65) (by decide +kernel)⟩
theorem m_inits : ∀ ci, ci < 13 → ∀ r, m_cl[ci]? = some r → Cond.initialized r.1 ∈ lw_tbl ∧ goodWord (Cond.initialized r.1) = true := by
  intro ci hci r hr
  match ci, hr with
  | 0, hr => cases hr; exact m_has_ok (j := 57) (by decide +kernel)
  | 1, hr => cases hr; exact m_has_ok (j := 48) (by decide +kernel)
  | 2, hr => cases hr; exact m_has_ok (j := 49) (by decide +kernel)
  | 3, hr => cases hr; exact m_has_ok (j := 58) (by decide +kernel)
  | 4, hr => cases hr; exact m_has_ok (j := 53) (by decide +kernel)
  | 5, hr => cases hr; exact m_has_ok (j := 55) (by decide +kernel)
  | 6, hr => cases hr; exact m_has_ok (j := 56) (by decide +kernel)
  | 7, hr => cases hr; exact m_has_ok (j := 50) (by decide +kernel)
  | 8, hr => cases hr; exact m_has_ok (j := 51) (by decide +kernel)
  | 9, hr => cases hr; exact m_has_ok (j := 52) (by decide +kernel)
  | 10, hr => cases hr; exact m_has_ok (j := 54) (by decide +kernel)
  | 11, hr => cases hr; exact m_has_ok (j := 47) (by decide +kernel)
  | n + 12, hr => cases hr
section M14
variable {p : Program} {l : Launch} {e : Jvm.Env} {R : Room} {s : State} {m : MethodId} {args : Array Value} {below : List Frame} {meth : Method} {c : Code} {Q : State → Prop} {c0 s0 : Nat} {D : va_G} {A : Nat → Prop} {z : m_Z} {ads : List Nat} {q : LK} {pc pc' M : Nat} {ls ls' : ML} {st st' : List MV} {h h' : MH} {rls : Array Slot} {rst : List Value} {H : Heap} {locs : List Loc} {nL : Nat}
set_option maxHeartbeats 4000000 in
theorem m_step {i : Instr} (CX : m_CX p l s m args meth c A z M) (hnL : nL = m_mls.getD M 0) (hck : m_ick M pc i q = true) (hl : m_lr ads z nL ls rls) (hs : m_vrs ads z st rst) (hr : m_rep D A ads s h H) (hS : va_S A s.heap H locs) (hsc : m_sc z h)
    (hc0 : c0 ≤ h.2.2.1) (hs0 : s0 ≤ h.2.2.2) (hRc : h'.2.2.1 - c0 ≤ R.cells) (hRs : h'.2.2.2 - s0 ≤ R.slots) (hRf : 10 ≤ R.frames) (hRl : 300 ≤ R.locals)
    (hm : mstep i q pc ls st h = .ok (pc', ls', st', h')) (K : m_K p l e R s m args below meth c Q nL c0 s0 D A z ads pc' ls' st' h') : W p l e R s m args below meth c H locs (h.2.2.1 - c0) (h.2.2.2 - s0) Q (F0 m pc rls rst) := by
  obtain ⟨hx, hb, hml, hown, hts, hE, hlocks, hname, htab, hret, hst⟩ := CX
  have hold := hE.2.1
  have hA := hE.2.2.1
  unfold m_ick at hck
  rw [Bool.and_eq_true] at hck
  obtain ⟨hdc, hsp⟩ := hck
  have hscr : va_X z.2.2.1 z.2.2.2.1 z.2.2.2.2 s s.heap ∧ z.2.2.1 < s.heap.size ∧ ¬ A z.2.2.1 ∧ z.2.2.2.1 ≤ 2560 ∧ h.1 1000001 0 = (z.2.2.2.1 : Int) ∧ ∀ j, j < z.2.2.2.1 → h.1 1000000 j = (z.2.2.2.2 j).toInt := ⟨hE.2.2.2.2.1, hE.2.2.2.2.2.1, hE.2.2.2.2.2.2.1, hE.2.2.2.2.2.2.2, hsc.1, hsc.2⟩
  have hw : ∀ {w : Cond}, (w ∈ lw_tbl ∧ goodWord w = true) → w.before args s = true := fun h => hts _ h.1 h.2
  cases i with
  | iconst v =>
    exact o_iconst hx hb hl hs hr hS (m_dcd_ok hdc rfl) (m_rng32_ok hsp) hm K
  | bipush v =>
    exact o_bipush hx hb hl hs hr hS (m_dcd_ok hdc rfl) (by simpa [m_spc] using hsp) hm K
  | sipush v =>
    exact o_sipush hx hb hl hs hr hS (m_dcd_ok hdc rfl) (by simpa [m_spc] using hsp) hm K
  | lconst v =>
    exact o_lconst hx hb hl hs hr hS (m_dcd_ok hdc rfl) hm K
  | iload v =>
    exact o_iload hx hb hl hs hr hS (m_dcd_ok hdc rfl) hm K
  | iload_n v =>
    exact o_iload_n hx hb hl hs hr hS (m_dcd_ok hdc rfl) hm K
  | lload v =>
    exact o_lload hx hb hl hs hr hS (m_dcd_ok hdc rfl) hm K
  | lload_n v =>
    exact o_lload_n hx hb hl hs hr hS (m_dcd_ok hdc rfl) hm K
  | aload v =>
    exact o_aload hx hb hl hs hr hS (m_dcd_ok hdc rfl) hm K
  | aload_n v =>
    exact o_aload_n hx hb hl hs hr hS (m_dcd_ok hdc rfl) hm K
  | istore v =>
    exact o_istore hx hb hl hs hr hS (m_dcd_ok hdc rfl) hm K
  | istore_n v =>
    exact o_istore_n hx hb hl hs hr hS (m_dcd_ok hdc rfl) hm K
  | lstore v =>
    exact o_lstore hx hb hl hs hr hS (m_dcd_ok hdc rfl) hm K
  | lstore_n v =>
    exact o_lstore_n hx hb hl hs hr hS (m_dcd_ok hdc rfl) hm K
  | astore v =>
    exact o_astore hx hb hl hs hr hS (m_dcd_ok hdc rfl) hm K
  | astore_n v =>
    exact o_astore_n hx hb hl hs hr hS (m_dcd_ok hdc rfl) hm K
  | iinc n v =>
    exact o_iinc hx hb hl hs hr hS (m_dcd_ok hdc rfl) (m_rng32_ok hsp) hm K
  | iadd =>
    exact o_iadd hx hb hl hs hr hS (m_dcd_ok hdc rfl) hm K
  | isub =>
    exact o_isub hx hb hl hs hr hS (m_dcd_ok hdc rfl) hm K
  | imul =>
    exact o_imul hx hb hl hs hr hS (m_dcd_ok hdc rfl) hm K
  | iand =>
    exact o_iand hx hb hl hs hr hS (m_dcd_ok hdc rfl) hm K
  | ior =>
    exact o_ior hx hb hl hs hr hS (m_dcd_ok hdc rfl) hm K
  | idiv =>
    exact o_idiv hx hb hl hs hr hS (m_dcd_ok hdc rfl) hm K
  | irem =>
    exact o_irem hx hb hl hs hr hS (m_dcd_ok hdc rfl) hm K
  | ishl =>
    exact o_ishl hx hb hl hs hr hS (m_dcd_ok hdc rfl) hm K
  | ishr =>
    exact o_ishr hx hb hl hs hr hS (m_dcd_ok hdc rfl) hm K
  | iushr =>
    exact o_iushr hx hb hl hs hr hS (m_dcd_ok hdc rfl) hm K
  | ladd =>
    exact o_ladd hx hb hl hs hr hS (m_dcd_ok hdc rfl) hm K
  | lsub =>
    exact o_lsub hx hb hl hs hr hS (m_dcd_ok hdc rfl) hm K
  | lmul =>
    exact o_lmul hx hb hl hs hr hS (m_dcd_ok hdc rfl) hm K
  | land =>
    exact o_land hx hb hl hs hr hS (m_dcd_ok hdc rfl) hm K
  | lor =>
    exact o_lor hx hb hl hs hr hS (m_dcd_ok hdc rfl) hm K
  | lxor =>
    exact o_lxor hx hb hl hs hr hS (m_dcd_ok hdc rfl) hm K
  | lshl =>
    exact o_lshl hx hb hl hs hr hS (m_dcd_ok hdc rfl) hm K
  | lshr =>
    exact o_lshr hx hb hl hs hr hS (m_dcd_ok hdc rfl) hm K
  | l2i =>
    exact o_l2i hx hb hl hs hr hS (m_dcd_ok hdc rfl) hm K
  | lcmp =>
    exact o_lcmp hx hb hl hs hr hS (m_dcd_ok hdc rfl) hm K
  | i2l =>
    exact o_i2l hx hb hl hs hr hS (m_dcd_ok hdc rfl) hm K
  | i2c =>
    exact o_i2c hx hb hl hs hr hS (m_dcd_ok hdc rfl) hm K
  | i2b =>
    exact o_i2b hx hb hl hs hr hS (m_dcd_ok hdc rfl) hm K
  | dup =>
    exact o_dup hx hb hl hs hr hS (m_dcd_ok hdc rfl) hm K
  | dup2 =>
    exact o_dup2 hx hb hl hs hr hS (m_dcd_ok hdc rfl) hm K
  | pop =>
    exact o_pop hx hb hl hs hr hS (m_dcd_ok hdc rfl) hm K
  | pop2 =>
    exact o_pop2 hx hb hl hs hr hS (m_dcd_ok hdc rfl) hm K
  | caload =>
    exact o_caload hx hb hl hs hr hS (m_dcd_ok hdc rfl) hold hm K
  | laload =>
    exact o_laload hx hb hl hs hr hS (m_dcd_ok hdc rfl) hm K
  | iastore =>
    exact o_iastore hx hb hl hs hr hS (m_dcd_ok hdc rfl) hm K
  | lastore =>
    exact o_lastore hx hb hl hs hr hS (m_dcd_ok hdc rfl) hm K
  | castore =>
    exact o_castore hx hb hl hs hr hS (m_dcd_ok hdc rfl) hm K
  | bastore =>
    exact o_bastore hx hb hl hs hr hS (m_dcd_ok hdc rfl) hm K
  | aaload =>
    exact o_aaload hx hb hl hs hr hS (m_dcd_ok hdc rfl) hm K
  | aastore =>
    exact o_aastore hx hb hl hs hr hS (m_dcd_ok hdc rfl) hm K
  | iaload =>
    exact o_iaload hx hb hl hs hr hS (m_dcd_ok hdc rfl) hold hscr hm K
  | arraylength =>
    exact o_arraylength hx hb hl hs hr hS (m_dcd_ok hdc rfl) hold hscr hm K
  | baload =>
    exact o_baload hx hb hl hs hr hS (m_dcd_ok hdc rfl) hold hm K
  | goto off =>
    have h0 : 0 ≤ (pc : Int) + off := of_decide_eq_true hsp
    exact o_goto hx hb hl hs hr hS (m_dcd_ok hdc rfl) h0 hm K
  | ifCond cnd off =>
    have h0 : 0 ≤ (pc : Int) + off := of_decide_eq_true hsp
    cases cnd with
    | eq => exact o_if_eq hx hb hl hs hr hS (m_dcd_ok hdc rfl) h0 hm K
    | ne => exact o_if_ne hx hb hl hs hr hS (m_dcd_ok hdc rfl) h0 hm K
    | lt => exact o_if_lt hx hb hl hs hr hS (m_dcd_ok hdc rfl) h0 hm K
    | ge => exact o_if_ge hx hb hl hs hr hS (m_dcd_ok hdc rfl) h0 hm K
    | gt => exact o_if_gt hx hb hl hs hr hS (m_dcd_ok hdc rfl) h0 hm K
    | le => exact o_if_le hx hb hl hs hr hS (m_dcd_ok hdc rfl) h0 hm K
  | if_icmp cnd off =>
    have h0 : 0 ≤ (pc : Int) + off := of_decide_eq_true hsp
    cases cnd with
    | eq => exact o_ic_eq hx hb hl hs hr hS (m_dcd_ok hdc rfl) h0 hm K
    | ne => exact o_ic_ne hx hb hl hs hr hS (m_dcd_ok hdc rfl) h0 hm K
    | lt => exact o_ic_lt hx hb hl hs hr hS (m_dcd_ok hdc rfl) h0 hm K
    | ge => exact o_ic_ge hx hb hl hs hr hS (m_dcd_ok hdc rfl) h0 hm K
    | gt => exact o_ic_gt hx hb hl hs hr hS (m_dcd_ok hdc rfl) h0 hm K
    | le => exact o_ic_le hx hb hl hs hr hS (m_dcd_ok hdc rfl) h0 hm K
  | tableswitch d lo hi offs =>
    obtain ⟨n, hn⟩ := m_dcd_T hdc
    exact o_tswitch hx hb hl hs hr hS hn hm K
  | getfield idx =>
    refine o_getfield hown hx hb hl hs hr hS (m_dcd_ok hdc rfl) ?_ hold hm K
    unfold m_spc at hsp
    dsimp only at hsp
    split at hsp
    · next r hr9 =>
      rw [Bool.and_eq_true, decide_eq_true_iff] at hsp
      refine Or.inl ⟨r, hr9, fun w hw9 => hw ((m_clok hr9).1 w hw9), hsp.1, ?_⟩
      have h2 := hsp.2
      unfold m_fw at h2
      split at h2
      · exact Or.inl (hw (m_has_ok h2))
      · exact Or.inr ⟨_, m_nw hE (m_hasN_ok h2) rfl⟩
    · next hr9 =>
      by_cases h150 : 150 ≤ q.1
      · exfalso
        unfold mstep m_get at hm
        dsimp only at hm
        split at hm
        · split at hm
          · have e9 : m_fty q.1 q.2.1 = 9 := by
              unfold m_fty
              rw [List.getD_eq_getElem?_getD (l := m_flds), List.getElem?_eq_none (by show 12 ≤ q.1; omega)]
              rfl
            rw [e9] at hm
            cases hm
          · cases hm
        · rw [if_neg (by omega)] at hm
          cases hm
        · cases hm
      · have h3 : decide (150 ≤ q.1) = false := decide_eq_false h150
        rw [h3, Bool.or_false, Bool.and_eq_true, beq_iff_eq, Bool.or_eq_true, Bool.and_eq_true, Bool.and_eq_true, beq_iff_eq, beq_iff_eq] at hsp
        refine Or.inr ⟨hsp.1, ?_⟩
        rcases hsp.2 with ⟨a1, a2⟩ | ⟨a1, a2⟩
        · exact Or.inl ⟨a1, hw (m_has_ok a2)⟩
        · exact Or.inr ⟨a1, hw (m_has_ok a2)⟩
  | putfield idx =>
    unfold m_spc at hsp
    dsimp only at hsp
    split at hsp
    · next r hr9 =>
      refine o_putfield hown hx hb hl hs hr hS (m_dcd_ok hdc rfl) ?_ hm K
      rw [Bool.and_eq_true, decide_eq_true_iff, Bool.and_eq_true] at hsp
      refine ⟨r, hr9, m_clok hr9, fun w hw9 => hw ((m_clok hr9).1 w hw9), hsp.1, ?_⟩
      have h2 := hsp.2.1
      have h3 := hsp.2.2
      unfold m_fw at h2
      split at h2
      · refine Or.inl ⟨?_, hw (m_has_ok h2)⟩
        rw [Bool.or_eq_true, Bool.not_eq_true'] at h3
        rcases h3 with h3 | h3
        · exact Or.inl h3
        · rw [Bool.and_eq_true, Bool.and_eq_true, decide_eq_true_iff, decide_eq_true_iff] at h3
          refine Or.inr ⟨?_, h3.2.2⟩
          by_cases h420 : M = 420
          · exfalso
            rw [h420] at h3
            exact absurd h3.2.1 (by decide +kernel)
          · exact (hname h420).trans h3.2.1
      · next hn0 =>
        refine Or.inr ⟨?_, _, m_nw hE (m_hasN_ok h2) rfl⟩
        rw [Bool.or_eq_true, Bool.not_eq_true'] at h3
        rcases h3 with h3 | h3
        · exact h3
        · rw [Bool.and_eq_true, beq_iff_eq] at h3
          exact absurd h3.1 hn0
    · next hr9 =>
      exfalso
      have h150 : 150 ≤ q.1 := of_decide_eq_true hsp
      unfold mstep m_putf at hm
      dsimp only at hm
      split at hm
      · split at hm
        · next hc =>
          have e9 : m_fty q.1 q.2.1 = 9 := by
            unfold m_fty
            rw [List.getD_eq_getElem?_getD (l := m_flds), List.getElem?_eq_none (by show 12 ≤ q.1; omega)]
            rfl
          have h4 := hc.2.2
          rw [e9] at h4
          cases h4
        · cases hm
      · cases hm
  | getstatic idx =>
    refine o_getstatic hown hx hb hl hs hr hS (m_dcd_ok hdc rfl) ?_ hold hm K
    unfold m_spc at hsp
    dsimp only at hsp
    simp only [Bool.or_eq_true, Bool.and_eq_true, beq_iff_eq, decide_eq_true_iff] at hsp
    rcases hsp with ⟨a, b, d⟩ | ⟨a, b, d⟩ | ⟨a, b, d⟩ | ⟨a, d⟩ | ⟨a, d⟩ | a
    · exact Or.inl ⟨a, b, hw (m_has_ok d)⟩
    · exact Or.inr (Or.inl ⟨a, b, hw (m_has_ok d)⟩)
    · exact Or.inr (Or.inr (Or.inl ⟨a, b, hw (m_has_ok d)⟩))
    · exact Or.inr (Or.inr (Or.inr (Or.inl ⟨a, hw (m_has_ok d)⟩)))
    · exact Or.inr (Or.inr (Or.inr (Or.inr (Or.inl ⟨a, hw (m_has_ok d)⟩))))
    · exact Or.inr (Or.inr (Or.inr (Or.inr (Or.inr a))))
  | ldc idx =>
    refine o_ldc hown hx hb hl hs hr hS (m_dcd_ok hdc rfl) ?_ hold hm K
    unfold m_spc at hsp
    dsimp only at hsp
    simp only [Bool.or_eq_true, Bool.and_eq_true, beq_iff_eq, decide_eq_true_iff] at hsp
    rcases hsp with ⟨a, b, d⟩ | ⟨a, b, d⟩ | ⟨a, b, d⟩ | a | a
    · exact Or.inl ⟨a, b, hw (m_has_ok d)⟩
    · split at d
      · next t ht =>
        rw [Bool.and_eq_true, decide_eq_true_iff, beq_iff_eq] at d
        refine Or.inr (Or.inl ⟨a, b, t.2.2, ?_⟩)
        rw [ht, ← d.1, ← d.2]
      · cases d
    · exact Or.inr (Or.inr (Or.inl ⟨a, b, hw (m_has_ok d)⟩))
    · exact Or.inr (Or.inr (Or.inr (Or.inl a)))
    · exact Or.inr (Or.inr (Or.inr (Or.inr a)))
  | ldc_w idx =>
    refine o_ldc_w hown hx hb hl hs hr hS (m_dcd_ok hdc rfl) ?_ hold hm K
    unfold m_spc at hsp
    dsimp only at hsp
    simp only [Bool.or_eq_true, Bool.and_eq_true, beq_iff_eq, decide_eq_true_iff] at hsp
    rcases hsp with ⟨a, b, d⟩ | ⟨a, b, d⟩ | ⟨a, b, d⟩ | a | a
    · exact Or.inl ⟨a, b, hw (m_has_ok d)⟩
    · split at d
      · next t ht =>
        rw [Bool.and_eq_true, decide_eq_true_iff, beq_iff_eq] at d
        refine Or.inr (Or.inl ⟨a, b, t.2.2, ?_⟩)
        rw [ht, ← d.1, ← d.2]
      · cases d
    · exact Or.inr (Or.inr (Or.inl ⟨a, b, hw (m_has_ok d)⟩))
    · exact Or.inr (Or.inr (Or.inr (Or.inl a)))
    · exact Or.inr (Or.inr (Or.inr (Or.inr a)))
  | ldc2_w idx =>
    refine o_ldc2 hown hx hb hl hs hr hS (m_dcd_ok hdc rfl) ?_ hm K
    unfold m_spc at hsp
    dsimp only at hsp
    simp only [Bool.or_eq_true, Bool.and_eq_true, beq_iff_eq, decide_eq_true_iff, Bool.not_eq_true', beq_eq_false_iff_ne] at hsp
    rcases hsp with ⟨a, b, d⟩ | ⟨a, b, d⟩ | a
    · exact Or.inl ⟨a, b, hw (m_has_ok d)⟩
    · exact Or.inr (Or.inl ⟨a, b, hw (m_has_ok d)⟩)
    · exact Or.inr (Or.inr a)
  | newarray t =>
    cases t with
    | int => exact o_newarray_int hx hb hl hs hr hS (m_dcd_ok hdc rfl) (hw ⟨m_arrw.1, rfl⟩) hA hc0 hs0 hRc hRs hm K
    | long => exact o_newarray_long hx hb hl hs hr hS (m_dcd_ok hdc rfl) (hw ⟨m_arrw.2.1, rfl⟩) hA hc0 hs0 hRc hRs hm K
    | char => exact o_newarray_char hx hb hl hs hr hS (m_dcd_ok hdc rfl) (hw ⟨m_arrw.2.2.1, rfl⟩) hA hc0 hs0 hRc hRs hm K
    | boolean => exact o_newarray_boolean hx hb hl hs hr hS (m_dcd_ok hdc rfl) (hw ⟨m_arrw.2.2.2, rfl⟩) hA hc0 hs0 hRc hRs hm K
    | _ => cases hm
  | anewarray idx =>
    unfold m_spc at hsp
    dsimp only at hsp
    split at hsp
    · next r hr9 =>
      rw [Bool.and_eq_true] at hsp
      exact o_anewarray hown hx hb hl hs hr hS (m_dcd_ok hdc rfl) hr9 (hw (m_has_ok hsp.1)) (hE.1 _ (m_hasN_ok hsp.2).1 (m_hasN_ok hsp.2).2) hA hc0 hs0 hRc hRs hm K
    · exfalso
      have h40 : 40 ≤ q.1 := of_decide_eq_true hsp
      unfold mstep at hm
      dsimp only at hm
      rw [if_neg (by omega)] at hm
      cases hm
  | new idx =>
    unfold m_spc at hsp
    dsimp only at hsp
    split at hsp
    · next r hr9 =>
      rw [Bool.and_eq_true, beq_iff_eq, Bool.and_eq_true] at hsp
      have hci : q.1 < 13 := Nat.lt_of_lt_of_le (List.getElem?_eq_some_iff.mp hr9).1 (show m_cl.length ≤ 13 by decide)
      have hN : q.2.1 < 100000 := by
        rw [← hsp.1]
        have : ∀ x ∈ m_cl, x.2.2 < 100000 := by decide +kernel
        exact this r (List.mem_of_getElem? hr9)
      exact o_new hown hx hb hl hs hr hS (m_dcd_ok hdc rfl) hr9 hsp.1 hN (m_clok hr9) (fun w hw9 => hw ((m_clok hr9).1 w hw9)) (hw (m_has_ok hsp.2.1)) (hw (m_has_ok hsp.2.2)) (hw (m_inits q.1 hci r hr9)) hA hc0 hs0 hRc hRs hm K
    · exfalso
      have h50 : 50 ≤ q.1 := by
        simp only [Bool.or_eq_true, Bool.and_eq_true, decide_eq_true_iff] at hsp
        rcases hsp with h | h
        · exact h.1
        · omega
      unfold mstep at hm
      dsimp only at hm
      rw [if_neg (by omega)] at hm
      split at hm <;> cases hm
  | invokespecial idx =>
    by_cases h9 : q.2.2.2 = 9
    · unfold m_spc at hsp
      dsimp only at hsp
      have hlk : m_has (.methodLink (m_y M).cls idx Lib.objectInit) q.2.2.1 = true := by
        rw [h9] at hsp
        simpa using hsp
      exact o_objInit hown hx hb hl hs hr hS (m_dcd_ok hdc rfl) (hml.trans hnL.symm) h9 (hw (m_has_ok hlk)) (hw m_miscw.1) (hw m_miscw.2.1) (by omega) (by omega) hm K
    · exfalso
      unfold mstep m_call at hm
      dsimp only at hm
      rw [if_neg h9] at hm
      split at hm
      · split at hm
        · split at hm <;> cases hm
        · cases hm
      · cases hm
  | invokestatic idx =>
    by_cases h6 : q.2.2.2 = 6
    · unfold m_spc at hsp
      dsimp only at hsp
      have hlk : m_has (.methodLink (m_y M).cls idx arraycopyName) q.2.2.1 = true := by
        rw [h6] at hsp
        simpa using hsp
      exact o_copy hown hx hb hl hs hr hS (m_dcd_ok hdc rfl) (hml.trans hnL.symm) h6 (hw (m_has_ok hlk)) (hw m_miscw.2.2.1) (hw m_miscw.2.2.2.1) (hw m_miscw.2.2.2.2) (by omega) (by omega) hm K
    · exfalso
      unfold mstep m_call at hm
      dsimp only at hm
      rw [if_neg h6] at hm
      split at hm
      · split at hm <;> cases hm
      · cases hm
  | invokevirtual idx =>
    exfalso
    unfold mstep m_call at hm
    dsimp only at hm
    split at hm
    · split at hm
      · split at hm <;> cases hm
      · cases hm
    · cases hm
  | ireturn =>
    exfalso
    unfold mstep m_iret at hm
    dsimp only at hm
    split at hm
    · split at hm <;> cases hm
    · cases hm
  | lreturn =>
    exfalso
    unfold mstep at hm
    dsimp only at hm
    split at hm <;> cases hm
  | areturn =>
    exfalso
    unfold mstep at hm
    dsimp only at hm
    split at hm <;> cases hm
  | return_ =>
    exfalso
    unfold mstep at hm
    dsimp only at hm
    split at hm <;> cases hm
  | _ => cases hm
end M14
