/-! THE SIMULATION -/
section M19
variable {p : Program} {l : Launch} {e : Jvm.Env} {R : Room} {s : State} {m : MethodId} {args : Array Value} {below : List Frame} {meth : Method} {c : Code} {Q : State → Prop} {c0 s0 : Nat} {D : va_G} {A : Nat → Prop} {z : m_Z} {ads : List Nat} {q : LK} {pc pc' M : Nat} {ls ls' : ML} {st st' : List MV} {h h' : MH} {rls : Array Slot} {rst : List Value} {H : Heap} {locs : List Loc} {nL : Nat}
theorem m_headOf {n : Nat} {v : MV} {t : List MV} (hn : n ≤ st.length) (h1 : 1 ≤ n) (hd : st.drop (n - 1) = v :: t) : (st.take n).reverse = v :: (st.take (n - 1)).reverse := by
  have e1 : st[n - 1]? = some v := by
    have : (st.drop (n - 1))[0]? = some v := by rw [hd]; rfl
    rw [List.getElem?_drop] at this
    simpa using this
  obtain ⟨k, rfl⟩ : ∃ k, n = k + 1 := ⟨n - 1, by omega⟩
  rw [Nat.add_sub_cancel] at e1 ⊢
  rw [List.take_add_one, e1]
  simp
/-- the thing that is called -/
theorem m_recvd {N n : Nat} {xs : List MV} {rs : List Value} (hE : m_ext z A s) (hr : m_rep D A ads s h H) (hS : va_S A s.heap H locs) (hrok : m_rok N = true) (hn : n ≤ st.length) (hn1 : 1 ≤ n) (hv : m_recv h (m_own N) n st = true) (hxs : xs = (st.take n).reverse) (hvs : m_vrs ads z xs rs) :
    ∃ (b : Nat) (As : List Value), rs = .ref b :: As ∧ ∃ cellB : Cell, H[b]? = some cellB ∧ cellB.vm.isStatics = false ∧ s.vm.findClass (m_y N).cls = some cellB.cls := by
  unfold m_recv at hv
  split at hv
  · next a t hd =>
    rw [beq_iff_eq] at hv
    have e1 := m_headOf hn hn1 hd
    rw [e1] at hxs
    subst hxs
    obtain ⟨ad, rr, rfl, h0, had, hs2⟩ := m_s2 hvs
    refine ⟨ad, rr, rfl, ?_⟩
    unfold m_rok at hrok
    split at hrok
    · next r9 hr9 =>
      have hcls : r9.1 = (m_y N).cls := of_decide_eq_true hrok
      have hlt : m_own N < 13 := Nat.lt_of_lt_of_le (List.getElem?_eq_some_iff.mp hr9).1 (show m_cl.length ≤ 13 by decide)
      obtain ⟨ws, tys, x, hK, hP, hD, hads, hlen, hall, hw1, hcr, hkd⟩ := m_at hr had (m_kfst hv (by omega))
      have hcr2 := hcr.2
      rw [if_pos (by rw [hv]; exact hlt)] at hcr2
      obtain ⟨fs, q2, rfl, hq, -⟩ := hcr2
      rw [hv] at hw1
      rw [← hcls]
      exact va_recv hK hP hr9 hw1
    · rw [Bool.and_eq_true, beq_iff_eq] at hrok
      rw [hrok.1] at hv
      exfalso
      obtain ⟨ws, tys, x, hK, hP, hD, hads, hlen, hall, hw1, hcr, hkd⟩ := m_at hr had (m_kfst hv (by omega))
      have h9 := hcr.2
      rw [if_neg (by omega), if_neg (by omega), if_neg (by omega), if_neg (by omega), if_neg (by omega), if_neg (by omega)] at h9
      exact h9
  · next x t hd =>
    rw [beq_iff_eq] at hv
    have e1 := m_headOf hn hn1 hd
    rw [e1] at hxs
    subst hxs
    obtain ⟨rr, rfl, h0, h1, hs2⟩ := m_s5 hvs
    refine ⟨_, rr, rfl, ?_⟩
    unfold m_rok at hrok
    split at hrok
    · next r9 hr9 =>
      have hlt : m_own N < 13 := Nat.lt_of_lt_of_le (List.getElem?_eq_some_iff.mp hr9).1 (show m_cl.length ≤ 13 by decide)
      omega
    · rw [Bool.and_eq_true, beq_iff_eq, decide_eq_true_iff] at hrok
      rw [hrok.2]
      exact vk_recv hE.2.1.1 (show x.toNat < 29 by omega) hS
  · cases hv
/-- words of a call, of a method without a table -/
theorem m_CB {N n idx d mc ms : Nat} (CX : m_CX p l s m args meth c A z M) (hN : m_mok N = true) (hraw : m_raw N = []) (hf : 10 + (d + 1) ≤ R.frames) (hl : 300 + 100 * (d + 1) ≤ R.locals) (hlink : (Cond.methodLink (m_y M).cls idx (m_y N)).before args s = true) :
    CallB R s args (m_y M).cls idx (m_y N) (m_cc N) (m_mls.getD N 0) (m_ret N) (m_w0 N :: m_gw) (m_rm d mc ms) mc ms (m_par N) := by
  obtain ⟨-, hw0, hini, hpf, hpn, hraw0, hne, hpar, h80, -⟩ := m_mok_ok hN
  obtain ⟨hx, hb, hml, hown, hts, hE, hlocks, -, -, hret, hst⟩ := CX
  have e0 : m_w0 N = .code (m_y N) (m_cc N) (m_mls.getD N 0) (m_ret N) := by unfold m_w0; rw [hraw]
  have hcode : (Cond.code (m_y N) (m_cc N) (m_mls.getD N 0) (m_ret N)).before args s = true := by rw [← e0]; exact hts _ hw0.1 hw0.2
  exact ⟨rfl, rfl, by show 10 + d + 1 ≤ _; omega, by show 8 + (_ + 11) + (300 + 100 * d) ≤ _; omega, m_pay hts hw0.1 hw0.2, by rw [← e0]; exact List.mem_cons_self, hcode, hts _ hini.1 hini.2, hne, hpar, hlink⟩
theorem m_CN {N n idx d mc ms : Nat} {host : String} (CX : m_CX p l s m args meth c A z M) (hN : m_mok N = true) (hraw : m_raw N = []) (hf : 10 + (d + 1) ≤ R.frames) (hl : 300 + 100 * (d + 1) ≤ R.locals) (hlink : (Cond.methodLinkNest (m_y M).cls idx (m_y N) host).before args s = true) :
    va_CN R s args (m_y M).cls idx (m_y N) host (m_cc N) (m_mls.getD N 0) (m_ret N) (m_w0 N :: m_gw) (m_rm d mc ms) mc ms (m_par N) := by
  obtain ⟨-, hw0, hini, hpf, hpn, hraw0, hne, hpar, h80, -⟩ := m_mok_ok hN
  obtain ⟨hx, hb, hml, hown, hts, hE, hlocks, -, -, hret, hst⟩ := CX
  have e0 : m_w0 N = .code (m_y N) (m_cc N) (m_mls.getD N 0) (m_ret N) := by unfold m_w0; rw [hraw]
  have hcode : (Cond.code (m_y N) (m_cc N) (m_mls.getD N 0) (m_ret N)).before args s = true := by rw [← e0]; exact hts _ hw0.1 hw0.2
  exact ⟨⟨rfl, rfl, by show 10 + d + 1 ≤ _; omega, by show 8 + (_ + 11) + (300 + 100 * d) ≤ _; omega, m_pay hts hw0.1 hw0.2, by rw [← e0]; exact List.mem_cons_self⟩, hcode, hts _ hini.1 hini.2, hne, hpar, hlink⟩
set_option maxHeartbeats 4000000 in
/-- a call that returns -/
theorem m_callR {i : Instr} {N d mc ms : Nat} {xs vs r : List MV} (CX : m_CX p l s m args meth c A z M) (hN : m_mok N = true) (hck : m_ick M pc i q = true) (hl : m_lr ads z (m_mls.getD M 0) ls rls) (hs : m_vrs ads z st rst) (hr : m_rep D A ads s h H) (hS : va_S A s.heap H locs)
    (hm : mstep i q pc ls st h = .error (1, N, xs, r)) (hf : 10 + (d + 1) ≤ R.frames) (hlo : 300 + 100 * (d + 1) ≤ R.locals) (hc0 : c0 ≤ h.2.2.1) (hs0 : s0 ≤ h.2.2.2) (hfr : m_fr h h') (hRc : h'.2.2.1 - c0 ≤ R.cells) (hRs : h'.2.2.2 - s0 ≤ R.slots)
    (hM : Met l (m_y N) (m_w0 N :: m_gw) (m_rm d (h'.2.2.1 - h.2.2.1) (h'.2.2.2 - h.2.2.2)) (m_Pc D A z ads xs h) (m_Qc D A z ads vs h') (h'.2.2.1 - h.2.2.1) (h'.2.2.2 - h.2.2.2) A)
    (K : m_K p l e R s m args below meth c Q (m_mls.getD M 0) c0 s0 D A z ads (pc + 3) ls (vs ++ r) h') : W p l e R s m args below meth c H locs (h.2.2.1 - c0) (h.2.2.2 - s0) Q (F0 m pc rls rst) := by
  obtain ⟨rfl, hn, hrc, hxc, rfl, rfl, hi⟩ := m_call_inv hm
  have CX0 := CX
  obtain ⟨hx, hb, hml, hown, hts, hE, hlocks, -, -, hret, hst⟩ := CX
  obtain ⟨hrok, hw0, hini, hpf, hpn, hraw0, hne, hpar, h80, hk0, hk1, hk2⟩ := m_mok_ok hN
  obtain ⟨rs, hrst, hvs, hrest, hlen⟩ := m_split hn hs
  unfold m_ick at hck
  rw [Bool.and_eq_true] at hck
  obtain ⟨hdc, hsp⟩ := hck
  have hw : ∀ {w : Cond}, (w ∈ lw_tbl ∧ goodWord w = true) → w.before args s = true := fun h => hts _ h.1 h.2
  have hcats : ((rst.drop q.2.1).map fun v => v.category).sum ≤ 8 := by rw [m_cats_of hrest]; exact hrc
  have h8 : 2 * (F0 m pc rls rst).monitorRoom + ((rst.drop q.2.1).map fun v => v.category).sum ≤ 8 := by
    show 2 * 0 + _ ≤ 8
    omega
  have hroom : (h.2.2.1 - c0) + (h'.2.2.1 - h.2.2.1) ≤ R.cells ∧ (h.2.2.2 - s0) + (h'.2.2.2 - h.2.2.2) ≤ R.slots := by
    have := hfr.2.1
    have := hfr.2.2.1
    omega
  have ec : (h.2.2.1 - c0) + (h'.2.2.1 - h.2.2.1) = h'.2.2.1 - c0 := by have := hfr.2.1; omega
  have es : (h.2.2.2 - s0) + (h'.2.2.2 - h.2.2.2) = h'.2.2.2 - s0 := by have := hfr.2.2.1; omega
  have fix : CallFix p m c (m_cc M) (m_mls.getD M 0) s args [] (m_y M).cls := ⟨hx, hb, hml, hown, fun w hw => nomatch hw⟩
  have hPU := m_PcU (h := h) hvs hr hE hS
  have hbl := m_Pc.blind D A z ads (st.take q.2.1).reverse h
  have rawOf : q.2.2.2 ≠ 7 → (m_knd q.1 ≠ 0 → m_raw q.1 = []) := by
    intro _ hk
    cases hraw : m_raw q.1 with
    | nil => rfl
    | cons t0 tt =>
      exfalso
      have h9 := m_hoks (M := q.1)
      unfold m_hok at h9
      simp only [Bool.and_eq_true, Bool.or_eq_true, decide_eq_true_iff] at h9
      rcases h9.2.2 with h10 | h10
      · rw [h9.1, List.isEmpty_iff.mp h10] at hraw
        cases hraw
      · by_cases h12 : q.1 < 439
        · rcases m_knd_law h12 h10 with h13 | h13
          · exact hk h13
          · unfold m_mok at hN
            rw [h13] at hN
            simp at hN
        · have : m_raw q.1 = [] := by
            unfold m_raw m_md
            rw [List.getD_eq_getElem?_getD, List.getElem?_eq_none (by rw [m_mdsl]; omega)]
            rfl
          rw [this] at hraw
          cases hraw
  have par : ∀ {k : Nat}, q.2.1 = k → rs.length = k := fun h9 => hlen.trans h9
  rcases hi with ⟨idx, rfl, hk45, hrecv⟩ | ⟨idx, rfl, hk23, hrecv⟩ | ⟨idx, rfl, hk017⟩
  · unfold m_spc at hsp
    dsimp only at hsp
    simp only [Bool.or_eq_true, Bool.and_eq_true, beq_iff_eq, decide_eq_true_iff] at hsp
    have hkp : m_knd q.1 = 2 ∧ q.2.1 = m_par q.1 + 1 := by
      rcases hsp with h9 | ⟨-, -, -, h9, h10⟩ | ⟨-, -, -, h9, h10⟩ | h9
      · omega
      · exact ⟨h9, h10⟩
      · exact ⟨h9, h10⟩
      · omega
    obtain ⟨hinst, hnm, hrn⟩ := hk2 hkp.1
    obtain ⟨b, As, rfl, hcell⟩ := m_recvd hE hr hS (hrok.resolve_left (by rw [hkp.1]; decide)) hn (by omega) hrecv rfl hvs
    have hAs : As.length = m_par q.1 := by have := par hkp.2; simpa using this
    have hst2 : rst = As.reverse ++ .ref b :: rst.drop q.2.1 := by
      have : (Value.ref b :: As).reverse = As.reverse ++ [.ref b] := List.reverse_cons
      rw [this, List.append_assoc] at hrst
      exact hrst
    have hraw := rawOf (by omega) (by rw [hkp.1]; decide)
    rcases hk45 with hk | hk
    · have hlk : m_has (.methodLink (m_y M).cls idx (m_y q.1)) q.2.2.1 = true := by
        rcases hsp with h9 | ⟨-, h9, -⟩ | h9 | h9
        · omega
        · exact h9
        · omega
        · omega
      have CB := m_CB (R := R) (d := d) (n := 0) (mc := h'.2.2.1 - h.2.2.1) (ms := h'.2.2.2 - h.2.2.2) CX0 hN hraw hf hlo (hw (m_has_ok hlk))
      rw [hrn] at CB
      exact m_after (va_runI (b := b) (As := As) (rest := rst.drop q.2.1) fix hM ⟨CB, hnm, hw hinst⟩ ⟨hbl, hPU⟩ rfl hAs hl.2.1 hst2 h8 (m_dcd_ok hdc rfl) hroom) hS hl hrest ec es hS.1 K
    · have hlk : m_hasN (.methodLinkNest (m_y M).cls idx (m_y q.1) "Syntaxspan") q.2.2.1 = true := by
        rcases hsp with h9 | h9 | ⟨-, h9, -⟩ | h9
        · omega
        · omega
        · exact h9
        · omega
      have CB := m_CN (R := R) (d := d) (n := 0) (mc := h'.2.2.1 - h.2.2.1) (ms := h'.2.2.2 - h.2.2.2) CX0 hN hraw hf hlo (m_nw hE (m_hasN_ok hlk) rfl)
      rw [hrn] at CB
      exact m_after (va_runIN (b := b) (As := As) (rest := rst.drop q.2.1) fix hM ⟨CB, hnm, hw hinst⟩ ⟨hbl, hPU⟩ rfl hAs hl.2.1 hst2 h8 (m_dcd_ok hdc rfl) hroom) hS hl hrest ec es hS.1 K
  · unfold m_spc at hsp
    dsimp only at hsp
    simp only [Bool.or_eq_true, Bool.and_eq_true, beq_iff_eq, decide_eq_true_iff] at hsp
    have hkp : m_knd q.1 = 1 ∧ q.2.1 = m_par q.1 + 1 := by
      rcases hsp with ⟨-, -, -, h9, h10⟩ | ⟨-, -, -, h9, h10⟩ | h9
      · exact ⟨h9, h10⟩
      · exact ⟨h9, h10⟩
      · omega
    obtain ⟨hinst, hsel⟩ := hk1 hkp.1
    obtain ⟨b, As, rfl, hcell⟩ := m_recvd hE hr hS (hrok.resolve_left (by rw [hkp.1]; decide)) hn (by omega) hrecv rfl hvs
    have hAs : As.length = m_par q.1 := by have := par hkp.2; simpa using this
    have hst2 : rst = As.reverse ++ .ref b :: rst.drop q.2.1 := by
      have : (Value.ref b :: As).reverse = As.reverse ++ [.ref b] := List.reverse_cons
      rw [this, List.append_assoc] at hrst
      exact hrst
    have hraw := rawOf (by omega) (by rw [hkp.1]; decide)
    rcases hk23 with hk | hk
    · have hlk : m_has (.methodLink (m_y M).cls idx (m_y q.1)) q.2.2.1 = true := by
        rcases hsp with ⟨-, h9, -⟩ | h9 | h9
        · exact h9
        · omega
        · omega
      have CB := m_CB (R := R) (d := d) (n := 0) (mc := h'.2.2.1 - h.2.2.1) (ms := h'.2.2.2 - h.2.2.2) CX0 hN hraw hf hlo (hw (m_has_ok hlk))
      exact m_after (va_runV (b := b) (As := As) (rest := rst.drop q.2.1) fix hM ⟨CB, hw hinst, hw hsel⟩ ⟨hbl, hcell, hPU⟩ rfl hAs hl.2.1 hst2 h8 (m_dcd_ok hdc rfl) hroom) hS hl hrest ec es hS.1 K
    · have hlk : m_hasN (.methodLinkNest (m_y M).cls idx (m_y q.1) "Syntaxspan") q.2.2.1 = true := by
        rcases hsp with h9 | ⟨-, h9, -⟩ | h9
        · omega
        · exact h9
        · omega
      have CB := m_CN (R := R) (d := d) (n := 0) (mc := h'.2.2.1 - h.2.2.1) (ms := h'.2.2.2 - h.2.2.2) CX0 hN hraw hf hlo (m_nw hE (m_hasN_ok hlk) rfl)
      exact m_after (va_runVN (b := b) (As := As) (rest := rst.drop q.2.1) fix hM ⟨CB, hw hinst, hw hsel⟩ ⟨hbl, hcell, hPU⟩ rfl hAs hl.2.1 hst2 h8 (m_dcd_ok hdc rfl) hroom) hS hl hrest ec es hS.1 K
  · unfold m_spc at hsp
    dsimp only at hsp
    simp only [Bool.or_eq_true, Bool.and_eq_true, beq_iff_eq, decide_eq_true_iff, List.isEmpty_iff, Bool.not_eq_true'] at hsp
    have hkp : m_knd q.1 = 0 ∧ q.2.1 = m_par q.1 := by
      rcases hsp with h9 | ⟨-, -, -, h9, h10, -⟩ | ⟨-, -, -, h9, h10, -⟩ | ⟨-, -, -, h9, h10, -⟩ | h9
      · omega
      · exact ⟨h9, h10⟩
      · exact ⟨h9, h10⟩
      · exact ⟨h9, h10⟩
      · omega
    have hstat := hk0 hkp.1
    have hAs : rs.length = m_par q.1 := par hkp.2
    rcases hk017 with hk | hk | hk
    · have hlk : m_has (.methodLink (m_y M).cls idx (m_y q.1)) q.2.2.1 = true ∧ m_raw q.1 = [] := by
        rcases hsp with h9 | ⟨-, h9, -, -, -, h10⟩ | h9 | h9 | h9
        · omega
        · exact ⟨h9, h10⟩
        · omega
        · omega
        · omega
      have CB := m_CB (R := R) (d := d) (n := 0) (mc := h'.2.2.1 - h.2.2.1) (ms := h'.2.2.2 - h.2.2.2) CX0 hN hlk.2 hf hlo (hw (m_has_ok hlk.1))
      exact m_after (va_runS (As := rs) (rest := rst.drop q.2.1) fix hM ⟨CB, hw hstat⟩ ⟨hbl, hPU⟩ rfl hAs hl.2.1 hrst h8 (m_dcd_ok hdc rfl) hroom) hS hl hrest ec es hS.1 K
    · have hlk : m_hasN (.methodLinkNest (m_y M).cls idx (m_y q.1) "Syntaxspan") q.2.2.1 = true ∧ m_raw q.1 = [] := by
        rcases hsp with h9 | h9 | ⟨-, h9, -, -, -, h10⟩ | h9 | h9
        · omega
        · omega
        · exact ⟨h9, h10⟩
        · omega
        · omega
      have CB := m_CN (R := R) (d := d) (n := 0) (mc := h'.2.2.1 - h.2.2.1) (ms := h'.2.2.2 - h.2.2.2) CX0 hN hlk.2 hf hlo (m_nw hE (m_hasN_ok hlk.1) rfl)
      exact m_after (va_runSN (As := rs) (rest := rst.drop q.2.1) fix hM ⟨CB, hw hstat, trivial⟩ ⟨hbl, hPU⟩ rfl hAs hl.2.1 hrst h8 (m_dcd_ok hdc rfl) hroom) hS hl hrest ec es hS.1 K
    · have hlk : m_has (.methodLink (m_y M).cls idx (m_y q.1)) q.2.2.1 = true ∧ m_raw q.1 ≠ [] := by
        rcases hsp with h9 | h9 | h9 | ⟨-, h9, -, -, -, h10⟩ | h9
        · omega
        · omega
        · omega
        · exact ⟨h9, fun e => by rw [e] at h10; cases h10⟩
        · omega
      have e0 : m_w0 q.1 = .codeWith (m_y q.1) (m_cc q.1) (m_mls.getD q.1 0) (m_ret q.1) (m_raw q.1) := by
        unfold m_w0
        split
        · next e => exact absurd e hlk.2
        · rfl
      have hcode : (Cond.codeWith (m_y q.1) (m_cc q.1) (m_mls.getD q.1 0) (m_ret q.1) (m_raw q.1)).before args s = true := by rw [← e0]; exact hw hw0
      have CB : vx_CSW R s args (m_y M).cls idx (m_y q.1) (m_cc q.1) (m_mls.getD q.1 0) (m_ret q.1) (m_raw q.1) (m_w0 q.1 :: m_gw) (m_rm d (h'.2.2.1 - h.2.2.1) (h'.2.2.2 - h.2.2.2)) (h'.2.2.1 - h.2.2.1) (h'.2.2.2 - h.2.2.2) (m_par q.1) :=
        ⟨⟨rfl, rfl, by show 10 + d + 1 ≤ _; omega, by show 8 + (_ + 11) + (300 + 100 * d) ≤ _; omega, m_pay hts hw0.1 hw0.2, by rw [← e0]; exact List.mem_cons_self⟩, hcode, hw hini, hne, hpar, hw (m_has_ok hlk.1), hw hstat⟩
      exact m_after (vx_runSW (As := rs) (rest := rst.drop q.2.1) fix hM CB ⟨hbl, hPU⟩ rfl hAs hl.2.1 hrst h8 (m_dcd_ok hdc rfl) hroom) hS hl hrest ec es hS.1 K
end M19
