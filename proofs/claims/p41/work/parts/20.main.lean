/-! THE SIMULATION, CLOSED -/
section M20
variable {p : Program} {l : Launch} {e : Jvm.Env} {R : Room} {s : State} {m : MethodId} {args : Array Value} {below : List Frame} {meth : Method} {c : Code} {Q : State → Prop} {c0 s0 : Nat} {D : va_G} {A : Nat → Prop} {z : m_Z} {ads : List Nat} {q : LK} {pc pc' M : Nat} {ls ls' : ML} {st st' : List MV} {h h' : MH} {rls : Array Slot} {rst : List Value} {H : Heap} {locs : List Loc} {nL : Nat}
set_option maxHeartbeats 4000000 in
/-- a call that throws -/
theorem m_callX {i : Instr} {N d x : Nat} {xs r : List MV} (CX : m_CX p l s m args meth c A z M) (hN : m_mok N = true) (hN2 : N < 387) (hkk : q.2.2.2 = 0 ∨ q.2.2.2 = 2) (hck : m_ick M pc i q = true) (hl : m_lr ads z (m_mls.getD M 0) ls rls) (hs : m_vrs ads z st rst) (hr : m_rep D A ads s h H) (hS : va_S A s.heap H locs)
    (hm : mstep i q pc ls st h = .error (1, N, xs, r)) (hf : 10 + (d + 1) ≤ R.frames) (hlo : 300 + 100 * (d + 1) ≤ R.locals) (hc0 : c0 ≤ h.2.2.1) (hs0 : s0 ≤ h.2.2.2) (hfr : m_fr h h') (hRc : h'.2.2.1 - c0 ≤ R.cells) (hRs : h'.2.2.2 - s0 ≤ R.slots)
    (hM : vx_Met l (m_y N) (m_w0 N :: m_gw) (m_rm d (h'.2.2.1 - h.2.2.1) (h'.2.2.2 - h.2.2.2)) (m_Pc D A z ads xs h) (fun _ _ _ _ => False) (m_Xc D A ads x h') (h'.2.2.1 - h.2.2.1) (h'.2.2.2 - h.2.2.2) A)
    (K : m_KX p l e R s m args below meth c Q (m_mls.getD M 0) c0 s0 D A z ads pc ls x h') : W p l e R s m args below meth c H locs (h.2.2.1 - c0) (h.2.2.2 - s0) Q (F0 m pc rls rst) := by
  obtain ⟨rfl, hn, hrc, hxc, rfl, rfl, hi⟩ := m_call_inv hm
  have CX0 := CX
  obtain ⟨hx, hb, hml, hown, hts, hE, hlocks, -, -, hret, hst⟩ := CX
  obtain ⟨hrok, hw0, hini, hpf, hpn, hraw0, hne, hpar, h80, hk0, hk1, hk2⟩ := m_mok_ok hN
  have hraw : m_raw q.1 = [] := by
    rcases hraw0 with h9 | h9
    · omega
    · exact h9
  obtain ⟨rs, hrst, hvs, hrest, hlen⟩ := m_split hn hs
  unfold m_ick at hck
  rw [Bool.and_eq_true] at hck
  obtain ⟨hdc, hsp⟩ := hck
  have hw : ∀ {w : Cond}, (w ∈ lw_tbl ∧ goodWord w = true) → w.before args s = true := fun h => hts _ h.1 h.2
  have hcats : ((rst.drop q.2.1).map fun v => v.category).sum ≤ 8 := by rw [m_cats_of hrest]; exact hrc
  have h8 : 2 * (F0 m pc rls rst).monitorRoom + ((rst.drop q.2.1).map fun v => v.category).sum ≤ 8 := by
    show 2 * 0 + _ ≤ 8
    omega
  have hroom : (h.2.2.1 - c0) + (h'.2.2.1 - h.2.2.1) ≤ R.cells ∧ (h.2.2.2 - s0) + (h'.2.2.2 - h.2.2.2) ≤ R.slots := by
    have := hfr.2.1
    have := hfr.2.2.1
    omega
  have ec : (h.2.2.1 - c0) + (h'.2.2.1 - h.2.2.1) = h'.2.2.1 - c0 := by have := hfr.2.1; omega
  have es : (h.2.2.2 - s0) + (h'.2.2.2 - h.2.2.2) = h'.2.2.2 - s0 := by have := hfr.2.2.1; omega
  have fix : CallFix p m c (m_cc M) (m_mls.getD M 0) s args [] (m_y M).cls := ⟨hx, hb, hml, hown, fun w hw => nomatch hw⟩
  have hPU := m_PcU (h := h) hvs hr hE hS
  have hbl := m_Pc.blind D A z ads (st.take q.2.1).reverse h
  have par : ∀ {k : Nat}, q.2.1 = k → rs.length = k := fun h9 => hlen.trans h9
  rcases hi with ⟨idx, rfl, hk45, hrecv⟩ | ⟨idx, rfl, hk23, hrecv⟩ | ⟨idx, rfl, hk017⟩
  · omega
  · unfold m_spc at hsp
    dsimp only at hsp
    simp only [Bool.or_eq_true, Bool.and_eq_true, beq_iff_eq, decide_eq_true_iff] at hsp
    obtain ⟨hlk, hkp⟩ : m_has (.methodLink (m_y M).cls idx (m_y q.1)) q.2.2.1 = true ∧ m_knd q.1 = 1 ∧ q.2.1 = m_par q.1 + 1 := by
      rcases hsp with ⟨-, h9, -, h10⟩ | h9 | h9
      · exact ⟨h9, h10⟩
      · omega
      · omega
    obtain ⟨hinst, hsel⟩ := hk1 hkp.1
    obtain ⟨b, As, rfl, hcell⟩ := m_recvd hE hr hS (hrok.resolve_left (by rw [hkp.1]; decide)) hn (by omega) hrecv rfl hvs
    have hAs : As.length = m_par q.1 := by have := par hkp.2; simpa using this
    have hst2 : rst = As.reverse ++ .ref b :: rst.drop q.2.1 := by
      have : (Value.ref b :: As).reverse = As.reverse ++ [.ref b] := List.reverse_cons
      rw [this, List.append_assoc] at hrst
      exact hrst
    have CB := m_CB (R := R) (d := d) (n := 0) (mc := h'.2.2.1 - h.2.2.1) (ms := h'.2.2.2 - h.2.2.2) CX0 hN hraw hf hlo (hw (m_has_ok hlk))
    exact m_afterX (vx_runV (b := b) (As := As) (rest := rst.drop q.2.1) fix hM ⟨CB, hw hinst, hw hsel⟩ ⟨hbl, hcell, hPU⟩ rfl hAs hl.2.1 hst2 h8 (m_dcd_ok hdc rfl) hroom) (fun _ _ _ h9 => h9) hS hl ec es K
  · unfold m_spc at hsp
    dsimp only at hsp
    simp only [Bool.or_eq_true, Bool.and_eq_true, beq_iff_eq, decide_eq_true_iff, List.isEmpty_iff, Bool.not_eq_true'] at hsp
    obtain ⟨hlk, hkp⟩ : m_has (.methodLink (m_y M).cls idx (m_y q.1)) q.2.2.1 = true ∧ m_knd q.1 = 0 ∧ q.2.1 = m_par q.1 := by
      rcases hsp with h9 | ⟨-, h9, -, h10, h11, -⟩ | h9 | h9 | h9
      · omega
      · exact ⟨h9, h10, h11⟩
      · omega
      · omega
      · omega
    have CB := m_CB (R := R) (d := d) (n := 0) (mc := h'.2.2.1 - h.2.2.1) (ms := h'.2.2.2 - h.2.2.2) CX0 hN hraw hf hlo (hw (m_has_ok hlk))
    exact m_afterX (vx_runS (As := rs) (rest := rst.drop q.2.1) fix hM ⟨CB, hw (hk0 hkp.1)⟩ ⟨hbl, hPU⟩ rfl (par hkp.2) hl.2.1 hrst h8 (m_dcd_ok hdc rfl) hroom) (fun _ _ _ h9 => h9) hS hl ec es K
/-- a handler of this method takes it -/
theorem m_handler {x hp : Nat} (CX : m_CX p l s m args meth c A z M) (hx : x < 3) (hh : m_hnd M pc x = some hp) (K : m_K p l e R s m args below meth c Q (m_mls.getD M 0) c0 s0 D A z ads hp ls [(3, 0)] h) :
    m_KX p l e R s m args below meth c Q (m_mls.getD M 0) c0 s0 D A z ads pc ls x h := by
  obtain ⟨hxe, hb, hml, hown, hts, hE, hlocks, hname, htab, hret, hst⟩ := CX
  intro b rls rest H locs q9 ce hl hr hS hce hcv hcl
  have hok := m_hoks (M := M)
  unfold m_hok at hok
  simp only [Bool.and_eq_true, Bool.or_eq_true, decide_eq_true_iff, List.all_eq_true] at hok
  obtain ⟨hraw, h3, hcls⟩ := hok
  unfold m_hnd at hh
  rw [Option.map_eq_some_iff] at hh
  obtain ⟨t, ht, rfl⟩ := hh
  rw [List.find?_eq_some_iff_append] at ht
  obtain ⟨htp, pre, suf, heq, hpre⟩ := ht
  simp only [Bool.and_eq_true, decide_eq_true_iff, beq_iff_eq] at htp
  have hcls2 : (m_y M).cls = "SyntaxspanLaw" := by
    rcases hcls with h9 | h9
    · rw [List.isEmpty_iff.mp h9] at heq
      simp at heq
    · exact h9
  have htab2 : c.exceptionTable.toList = tableOf (pre.map (fun t => (t.1, t.2.1, t.2.2.1, [87, 89, 91].getD t.2.2.2 0))) ++ ⟨t.1, t.2.1, t.2.2.1, [87, 89, 91].getD t.2.2.2 0⟩ :: tableOf (suf.map (fun t => (t.1, t.2.1, t.2.2.1, [87, 89, 91].getD t.2.2.2 0))) := by
    have h420 : M ≠ 420 := by
      intro e
      subst e
      have : m_hh 420 = [] := by decide +kernel
      rw [this] at heq
      simp at heq
    rw [htab h420, hraw, heq]
    simp [tableOf]
  have hne : ∀ y, y < 3 → [87, 89, 91].getD y 0 ≠ 0 := by decide
  have htx : t.2.2.2 = x := htp.2
  obtain ⟨-, hcast, hlink, -⟩ := m_exw x hx
  refine vx_catch hown _ _ _ htab2 ?_ ?_ ?_ (name := m_exn x) ?_ (va_Nw.use rfl (hE.1 _ hcast.1 hcast.2)) hce hcv hcl ?_
  · intro y hy
    unfold tableOf at hy
    rw [List.mem_map] at hy
    obtain ⟨u, hu, rfl⟩ := hy
    rw [List.mem_map] at hu
    obtain ⟨t2, ht2, rfl⟩ := hu
    have h4 := hpre t2 ht2
    have h5 : t2.2.2.2 < 3 := h3 t2 (by rw [heq]; exact List.mem_append_left _ ht2)
    by_cases h6 : (decide (t2.1 ≤ pc) && decide (pc < t2.2.1)) = true
    · right
      refine ⟨hne _ h5, m_exn t2.2.2.2, ?_, ?_⟩
      · rw [hcls2]
        exact hts _ (m_exw _ h5).2.2.1.1 (m_exw _ h5).2.2.1.2
      · refine hE.2.2.2.1 x t2.2.2.2 hx h5 (fun e9 => ?_)
        rw [Bool.and_eq_true] at h6
        rw [h6.1, h6.2, ← e9] at h4
        simp at h4
    · left
      show (decide (t2.1 ≤ pc) && decide (pc < t2.2.1)) = false
      exact Bool.eq_false_iff.mpr h6
  · show (decide (t.1 ≤ pc) && decide (pc < t.2.1)) = true
    rw [Bool.and_eq_true, decide_eq_true_iff, decide_eq_true_iff]
    exact htp.1
  · show [87, 89, 91].getD t.2.2.2 0 ≠ 0
    rw [htx]
    exact hne x hx
  · show (Cond.classLink (m_y M).cls ([87, 89, 91].getD t.2.2.2 0) (m_exn x)).before args s = true
    rw [hcls2, htx]
    exact hts _ hlink.1 hlink.2
  · exact K b rls [.ref q9] H locs hl ⟨Or.inr ⟨q9, rfl⟩, trivial⟩ hr hS
end M20
theorem m_hnd_lt {M pc x hp : Nat} (h : m_hnd M pc x = some hp) : x < 3 := by
  have hok := m_hoks (M := M)
  unfold m_hok at hok
  simp only [Bool.and_eq_true, Bool.or_eq_true, decide_eq_true_iff, List.all_eq_true] at hok
  unfold m_hnd at h
  rw [Option.map_eq_some_iff] at h
  obtain ⟨t, ht, -⟩ := h
  have h1 := List.mem_of_find?_eq_some ht
  have h2 := List.find?_some ht
  simp only [Bool.and_eq_true, beq_iff_eq] at h2
  rw [← h2.2]
  exact hok.2.1 t h1
set_option maxHeartbeats 4000000 in
theorem m_sim (l : Launch) (hlst : l.stackTraces = false) (hck : ∀ (M pc : Nat) (i : Instr) (q : LK), (m_tb M)[pc]? = some (some (i, q)) → m_ick M pc i q = true) (hmok : ∀ (M pc : Nat) (i : Instr) (q : LK) (ls : ML) (st : List MV) (h : MH) (N : Nat) (xs r : List MV), (m_tb M)[pc]? = some (some (i, q)) → mstep i q pc ls st h = .error (1, N, xs, r) → m_mok N = true) : ∀ f, m_SIM l f := by
  intro f
  induction f with
  | zero => intro d M pc ls st h o h' hm; cases hm
  | succ f ih =>
    intro d M pc ls st h o h' hm p e R s m args below meth c Q c0 s0 D A z ads CX hsc hlen hc0 hs0 hRc hRs hRf hRl Leaf Out
    unfold mx at hm
    split at hm
    · next i q ht =>
      have hci := hck _ _ _ _ ht
      split at hm
      · next pc' ls' st' h2 hst =>
        -- a plain step
        have f1 := m_fr_step hst
        have f2 := m_fr_mx _ _ _ _ _ _ _ _ _ hm
        have hlen2 : h2.2.1.length ≤ 1000000 := Nat.le_trans f2.1 hlen
        have hsc2 : m_sc z h2 := ⟨by rw [f1.2.2.2 1000001 (by omega)]; exact hsc.1, fun j hj => by rw [f1.2.2.2 1000000 hlen2]; exact hsc.2 j hj⟩
        have k := ih d M pc' ls' st' h2 o h' hm p e R s m args below meth c Q c0 s0 D A z ads CX hsc2 hlen (Nat.le_trans hc0 f1.2.1) (Nat.le_trans hs0 f1.2.2.1) hRc hRs hRf hRl Leaf Out
        intro b rls rst H locs hl hs hr hS
        have := f2.2.1
        have := f2.2.2.1
        exact m_step CX rfl hci hl hs hr hS hsc hc0 hs0 (by omega) (by omega) (by omega) (by omega) hst (k.up b)
      · next N xs r hst =>
        have hN := hmok _ _ _ _ _ _ _ _ _ _ ht hst
        obtain ⟨-, -, -, hxc, -⟩ := m_call_inv hst
        split at hm
        · cases hm
        · next d' =>
          split at hm
          · next vs h2 hcall =>
            have f1 := m_fr_mx _ _ _ _ _ _ _ _ _ hcall
            have f2 := m_fr_mx _ _ _ _ _ _ _ _ _ hm
            have hlen2 : h2.2.1.length ≤ 1000000 := Nat.le_trans f2.1 hlen
            have hsc2 : m_sc z h2 := ⟨by rw [f1.2.2.2 1000001 (by omega)]; exact hsc.1, fun j hj => by rw [f1.2.2.2 1000000 hlen2]; exact hsc.2 j hj⟩
            have k := ih (d' + 1) M (pc + 3) ls (vs ++ r) h2 o h' hm p e R s m args below meth c Q c0 s0 D A z ads CX hsc2 hlen (Nat.le_trans hc0 f1.2.1) (Nat.le_trans hs0 f1.2.2.1) hRc hRs hRf hRl Leaf Out
            intro b rls rst H locs hl hs hr hS
            have := f2.2.1
            have := f2.2.2.1
            exact m_callR (mc := 0) (ms := 0) CX hN hci hl hs hr hS hst (by omega) (by omega) hc0 hs0 f1 (by omega) (by omega) (m_met_ret hlst hck ih hN hcall hxc hsc hlen2) (k.up b)
          · next x vs h2 hcall =>
            have f1 := m_fr_mx _ _ _ _ _ _ _ _ _ hcall
            split at hm
            · cases hm
            · next hno =>
              have hN2 : N < 387 := by omega
              have hkk : q.2.2.2 = 0 ∨ q.2.2.2 = 2 := by omega
              split at hm
              · next hp hh =>
                have f2 := m_fr_mx _ _ _ _ _ _ _ _ _ hm
                have hlen2 : h2.2.1.length ≤ 1000000 := Nat.le_trans f2.1 hlen
                have hsc2 : m_sc z h2 := ⟨by rw [f1.2.2.2 1000001 (by omega)]; exact hsc.1, fun j hj => by rw [f1.2.2.2 1000000 hlen2]; exact hsc.2 j hj⟩
                have k := ih (d' + 1) M hp ls [(3, 0)] h2 o h' hm p e R s m args below meth c Q c0 s0 D A z ads CX hsc2 hlen (Nat.le_trans hc0 f1.2.1) (Nat.le_trans hs0 f1.2.2.1) hRc hRs hRf hRl Leaf Out
                intro b rls rst H locs hl hs hr hS
                have := f2.2.1
                have := f2.2.2.1
                exact m_callX CX hN hN2 hkk hci hl hs hr hS hst (by omega) (by omega) hc0 hs0 f1 (by omega) (by omega) (m_met_thr hlst hck ih hN hN2 hcall hxc hsc hlen2) ((m_handler CX (m_hnd_lt hh) hh k).up b)
              · next hh =>
                cases hm
                intro b rls rst H locs hl hs hr hS
                exact m_callX CX hN hN2 hkk hci hl hs hr hS hst (by omega) (by omega) hc0 hs0 f1 (by omega) (by omega) (m_met_thr hlst hck ih hN hN2 hcall hxc hsc hlen) ((Out x pc ls rfl hh).up b)
          · cases hm
      · next a xs r hst =>
        cases hm
        exact Leaf pc ls st h ⟨i, q, ht, Or.inl ⟨a, xs, r, hst, rfl, rfl⟩⟩ hc0 hs0
      · next x xs r hst =>
        cases hm
        exact Leaf pc ls st h ⟨i, q, ht, Or.inr ⟨x, xs, r, hst, rfl, rfl⟩⟩ hc0 hs0
      · cases hm
    · cases hm
