/-! THE SMALL MACHINE'S INSTRUCTIONS OVER THE MACHINE: arrays, things made, texts -/
theorem m_ctr : ∀ l ∈ m_cts, ∀ x ∈ l, -2147483648 ≤ x ∧ x < 2147483648 := by decide +kernel
theorem m_ctb : ∀ i, i < 29 → (m_byt.getD i []).map Int32.toInt = m_ct (i + 5) ∧ m_len.getD i 0 = (m_ct (i + 5)).length := by decide +kernel
theorem m_ctlen : m_cts.length = 34 := by decide +kernel
theorem m_ct_rng {c i : Nat} {x : Int} (h : (m_ct c)[i]? = some x) : -2147483648 ≤ x ∧ x < 2147483648 := by
  unfold m_ct at h
  have h1 : x ∈ m_cts.getD c [] := List.mem_of_getElem? h
  rw [List.getD_eq_getElem?_getD] at h1
  cases hc : m_cts[c]? with
  | none => rw [hc] at h1; cases h1
  | some l =>
    rw [hc] at h1
    exact m_ctr l (List.mem_of_getElem? hc) x h1
theorem m_getD {l : List Int} {i : Nat} {x : Int} (h : l[i]? = some x) (d : Int) : l.getD i d = x := by rw [List.getD_eq_getElem?_getD, h]; rfl
theorem m_vpnar {ty : FieldType} {X : Int32} (h : narrow ty (.int X) = .int X) : vp_nar ty X = X := by unfold vp_nar; rw [h]
theorem m_updI {n : Nat} {f : Nat → Int32} {F : Nat → Nat → Int} {k i : Nat} {X : Int32} {x : Int} (hX : X.toInt = x) (hf : ∀ j, j < n → (f j).toInt = F k j) : ∀ j, j < n → (upd f i X j).toInt = m_up F k i x k j := by
  intro j hj
  rw [m_up_at]
  unfold upd
  by_cases e : j = i
  · rw [if_pos e, if_pos e]; exact hX
  · rw [if_neg e, if_neg e]; exact hf j hj
theorem m_updL {n : Nat} {f : Nat → Int64} {F : Nat → Nat → Int} {k i : Nat} {X : Int64} {x : Int} (hX : X.toInt = x) (hf : ∀ j, j < n → (f j).toInt = F k j) : ∀ j, j < n → (vp_updL f i X j).toInt = m_up F k i x k j := by
  intro j hj
  rw [m_up_at]
  unfold vp_updL
  by_cases e : j = i
  · rw [if_pos e, if_pos e]; exact hX
  · rw [if_neg e, if_neg e]; exact hf j hj
section M9
variable {p : Program} {l : Launch} {e : Jvm.Env} {R : Room} {s : State} {m : MethodId} {args : Array Value} {below : List Frame} {meth : Method} {c : Code} {Q : State → Prop} {cc : ByteArray} {own : String} {nL c0 s0 : Nat} {D : va_G} {A : Nat → Prop} {z : m_Z} {ads : List Nat} {q : LK} {pc pc' : Nat} {ls ls' : ML} {st st' : List MV} {h h' : MH} {rls : Array Slot} {rst : List Value} {H : Heap} {locs : List Loc}
theorem m_cr100 {tys : List (ClassId × FieldType)} {k : Nat × Nat} {F : Nat → Int} {x : va_E} (h : m_cr ads tys k F x) (e : k.1 = 100) : m_ct1 ads tys .int k.2 F x := by
  have := h.2
  rwa [if_neg (by omega), if_pos e] at this
theorem m_cr101 {tys : List (ClassId × FieldType)} {k : Nat × Nat} {F : Nat → Int} {x : va_E} (h : m_cr ads tys k F x) (e : k.1 = 101) : ∃ (cA : ClassId) (f : Nat → Int64) (t0 : Nat), x = .inl (cA, k.2, .inr (.inl f)) ∧ tys[t0]? = some (cA, .long) ∧ ∀ i, i < k.2 → (f i).toInt = F i := by
  have := h.2
  rwa [if_neg (by omega), if_neg (by omega), if_pos e] at this
theorem m_cr102 {tys : List (ClassId × FieldType)} {k : Nat × Nat} {F : Nat → Int} {x : va_E} (h : m_cr ads tys k F x) (e : k.1 = 102) : m_ct1 ads tys .char k.2 F x ∧ ∀ i, i < k.2 → 0 ≤ F i ∧ F i < 65536 := by
  have := h.2
  rwa [if_neg (by omega), if_neg (by omega), if_neg (by omega), if_pos e] at this
theorem m_cr103 {tys : List (ClassId × FieldType)} {k : Nat × Nat} {F : Nat → Int} {x : va_E} (h : m_cr ads tys k F x) (e : k.1 = 103) : m_ct1 ads tys .boolean k.2 F x := by
  have := h.2
  rwa [if_neg (by omega), if_neg (by omega), if_neg (by omega), if_neg (by omega), if_pos e] at this
theorem m_cr110 {tys : List (ClassId × FieldType)} {k : Nat × Nat} {F : Nat → Int} {x : va_E} (h : m_cr ads tys k F x) (e1 : 110 ≤ k.1) (e2 : k.1 < 150) : ∃ (q : vw_C) (cA : ClassId) (f : Nat → Option Nat) (t0 : Nat), m_cl[k.1 - 110]? = some q ∧ x = .inl (cA, k.2, .inr (.inr (.inr (.inr f)))) ∧ tys[t0]? = some (cA, .object q.1) ∧ ∀ i, i < k.2 → (F i = -1 ∧ f i = none) ∨ (0 ≤ F i ∧ ∃ a : Nat, ads[(F i).toNat]? = some a ∧ f i = some a) := by
  have := h.2
  rwa [if_neg (by omega), if_neg (by omega), if_neg (by omega), if_neg (by omega), if_neg (by omega), if_pos ⟨e1, e2⟩] at this
theorem m_mk100 {tys : List (ClassId × FieldType)} {k : Nat × Nat} {F : Nat → Int} {x : va_E} (hk : k.2 < 100000) (e : k.1 = 100) (h : m_ct1 ads tys .int k.2 F x) : m_cr ads tys k F x := ⟨hk, by rwa [if_neg (by omega), if_pos e]⟩
theorem m_mk102 {tys : List (ClassId × FieldType)} {k : Nat × Nat} {F : Nat → Int} {x : va_E} (hk : k.2 < 100000) (e : k.1 = 102) (h : m_ct1 ads tys .char k.2 F x ∧ ∀ i, i < k.2 → 0 ≤ F i ∧ F i < 65536) : m_cr ads tys k F x := ⟨hk, by rwa [if_neg (by omega), if_neg (by omega), if_neg (by omega), if_pos e]⟩
theorem m_mk103 {tys : List (ClassId × FieldType)} {k : Nat × Nat} {F : Nat → Int} {x : va_E} (hk : k.2 < 100000) (e : k.1 = 103) (h : m_ct1 ads tys .boolean k.2 F x) : m_cr ads tys k F x := ⟨hk, by rwa [if_neg (by omega), if_neg (by omega), if_neg (by omega), if_neg (by omega), if_pos e]⟩
theorem m_mk101 {tys : List (ClassId × FieldType)} {k : Nat × Nat} {F : Nat → Int} {x : va_E} (hk : k.2 < 100000) (e : k.1 = 101) (h : ∃ (cA : ClassId) (f : Nat → Int64) (t0 : Nat), x = .inl (cA, k.2, .inr (.inl f)) ∧ tys[t0]? = some (cA, .long) ∧ ∀ i, i < k.2 → (f i).toInt = F i) : m_cr ads tys k F x := ⟨hk, by rwa [if_neg (by omega), if_neg (by omega), if_pos e]⟩
theorem m_mk110 {tys : List (ClassId × FieldType)} {k : Nat × Nat} {F : Nat → Int} {x : va_E} (hk : k.2 < 100000) (e1 : 110 ≤ k.1) (e2 : k.1 < 150) (h : ∃ (q : vw_C) (cA : ClassId) (f : Nat → Option Nat) (t0 : Nat), m_cl[k.1 - 110]? = some q ∧ x = .inl (cA, k.2, .inr (.inr (.inr (.inr f)))) ∧ tys[t0]? = some (cA, .object q.1) ∧ ∀ i, i < k.2 → (F i = -1 ∧ f i = none) ∨ (0 ≤ F i ∧ ∃ a : Nat, ads[(F i).toNat]? = some a ∧ f i = some a)) : m_cr ads tys k F x := ⟨hk, by rwa [if_neg (by omega), if_neg (by omega), if_neg (by omega), if_neg (by omega), if_neg (by omega), if_pos ⟨e1, e2⟩]⟩

theorem m_ctl : ∀ i, i < 29 → (m_ct (i + 5)).length < 100 := by decide +kernel

theorem o_iatc (hx : p.tables.exec = Jvm.exec) (hb : c.code = cc) (hl : m_lr ads z nL ls rls) (hs : m_vrs ads z st rst) (hr : m_rep D A ads s h H) (hS : va_S A s.heap H locs) (hd : decode cc pc = .ok (.iaload, 1)) (hold : m_old z A s s.heap) (hm : m_atc (pc + 1) ls st h 2 3 = .ok (pc', ls', st', h')) (K : m_K p l e R s m args below meth c Q nL c0 s0 D A z ads pc' ls' st' h') : W p l e R s m args below meth c H locs (h.2.2.1 - c0) (h.2.2.2 - s0) Q (F0 m pc rls rst) := by
  unfold m_atc at hm
  split at hm
  · next i c9 r =>
    split at hm
    · next hc =>
      split at hm
      · next x hx9 =>
        cases hm
        obtain ⟨I, r1, rfl, hI, hs1⟩ := m_s0 hs
        obtain ⟨rr, rfl, h0, h1, hs2⟩ := m_s4 hs1
        have hrg := m_ct_rng hx9
        obtain ⟨-, -, -, -, -, -, -, hT2, -⟩ := hold
        have hlt := (List.getElem?_eq_some_iff.mp hx9).1
        obtain rfl : c9 = 2 := by omega
        · have hin : vp_in I 9 := m_vpin (by rw [hI]; exact hc.1) (by rw [hI]; have : i.toNat < 9 := hlt; omega)
          refine va_ti hx hb hT2 hS hin rfl hd ?_
          refine m_k0 K hl ⟨?_, hs2⟩ hr hS
          show m_vr ads z (0, x) (.int (Int32.ofInt ((m_ct 2).getD I.toNatClampNeg 0)))
          rw [m_tn hI hc.1, m_getD (show (m_ct 2)[i.toNat]? = some x from hx9)]
          exact m_i0 (m_ofInt hrg.1 hrg.2)
      · cases hm
    · cases hm
  · cases hm

theorem o_iald (hx : p.tables.exec = Jvm.exec) (hb : c.code = cc) (hl : m_lr ads z nL ls rls) (hs : m_vrs ads z st rst) (hr : m_rep D A ads s h H) (hS : va_S A s.heap H locs) (hd : decode cc pc = .ok (.iaload, 1))  (hm : m_ald 100 0 (pc + 1) ls st h = .ok (pc', ls', st', h')) (K : m_K p l e R s m args below meth c Q nL c0 s0 D A z ads pc' ls' st' h') : W p l e R s m args below meth c H locs (h.2.2.1 - c0) (h.2.2.2 - s0) Q (F0 m pc rls rst) := by
  unfold m_ald at hm
  split at hm
  · next i a r =>
    split at hm
    · next hc =>
      cases hm
      obtain ⟨I, r1, rfl, hI, hs1⟩ := m_s0 hs
      obtain ⟨ad, rr, rfl, h0, had, hs2⟩ := m_s2 hs1
      obtain ⟨ws, tys, x9, hC⟩ := m_at hr had (m_kfst hc.1 (by omega))
      obtain ⟨hK, hP, hD, hads, hlen, hall, hw1, hcr, hkd⟩ := hC
      obtain ⟨cA, f, t0, rfl, ht, hf⟩ := m_cr100 hcr hc.1
      have hin : vp_in I (m_kind h a).2 := m_vpin (by rw [hI]; exact hc.2.1) (by rw [hI]; exact hc.2.2)
      refine va_iald hx hb hK hP a.toNat t0 hw1 ht hin hd ?_
      refine m_k0 K hl ⟨m_i0 ?_, hs2⟩ hr hS
      rw [m_tn hI hc.2.1]
      exact hf _ (by omega)
    · cases hm
  · cases hm

theorem o_batc (hx : p.tables.exec = Jvm.exec) (hb : c.code = cc) (hl : m_lr ads z nL ls rls) (hs : m_vrs ads z st rst) (hr : m_rep D A ads s h H) (hS : va_S A s.heap H locs) (hd : decode cc pc = .ok (.baload, 1)) (hold : m_old z A s s.heap) (hm : m_atc (pc + 1) ls st h 5 34 = .ok (pc', ls', st', h')) (K : m_K p l e R s m args below meth c Q nL c0 s0 D A z ads pc' ls' st' h') : W p l e R s m args below meth c H locs (h.2.2.1 - c0) (h.2.2.2 - s0) Q (F0 m pc rls rst) := by
  unfold m_atc at hm
  split at hm
  · next i c9 r =>
    split at hm
    · next hc =>
      split at hm
      · next x hx9 =>
        cases hm
        obtain ⟨I, r1, rfl, hI, hs1⟩ := m_s0 hs
        obtain ⟨rr, rfl, h0, h1, hs2⟩ := m_s4 hs1
        obtain ⟨⟨hSt, -⟩, -⟩ := hold
        have hlt := (List.getElem?_eq_some_iff.mp hx9).1
        obtain ⟨k, rfl⟩ : ∃ k : Nat, c9 = (k : Int) + 5 := ⟨(c9 - 5).toNat, by omega⟩
        have hk : ((k : Int) + 5).toNat = k + 5 := by omega
        rw [hk] at hx9 hlt
        obtain ⟨hO, hco, hva, hT⟩ := hSt k (by omega)
        obtain ⟨hb1, hb2⟩ := m_ctb k (by omega)
        have hin : vp_in I (m_len.getD k 0) := m_vpin (by rw [hI]; exact hc.1) (by rw [hI, hb2]; omega)
        rw [hk]
        refine va_tb hx hb hT hS hin rfl hd ?_
        refine m_k0 K hl ⟨?_, hs2⟩ hr hS
        show m_vr ads z (0, x) (.int ((m_byt.getD k []).getD I.toNatClampNeg 0))
        rw [m_tn hI hc.1]
        refine m_i0 ?_
        rw [← hb1, List.getElem?_map] at hx9
        cases hg : (m_byt.getD k [])[i.toNat]? with
        | none => rw [hg] at hx9; cases hx9
        | some b =>
          rw [hg] at hx9
          rw [List.getD_eq_getElem?_getD, hg]
          exact Option.some.inj hx9
      · cases hm
    · cases hm
  · cases hm

theorem o_bald (hx : p.tables.exec = Jvm.exec) (hb : c.code = cc) (hl : m_lr ads z nL ls rls) (hs : m_vrs ads z st rst) (hr : m_rep D A ads s h H) (hS : va_S A s.heap H locs) (hd : decode cc pc = .ok (.baload, 1))  (hm : m_ald 103 0 (pc + 1) ls st h = .ok (pc', ls', st', h')) (K : m_K p l e R s m args below meth c Q nL c0 s0 D A z ads pc' ls' st' h') : W p l e R s m args below meth c H locs (h.2.2.1 - c0) (h.2.2.2 - s0) Q (F0 m pc rls rst) := by
  unfold m_ald at hm
  split at hm
  · next i a r =>
    split at hm
    · next hc =>
      cases hm
      obtain ⟨I, r1, rfl, hI, hs1⟩ := m_s0 hs
      obtain ⟨ad, rr, rfl, h0, had, hs2⟩ := m_s2 hs1
      obtain ⟨ws, tys, x9, hC⟩ := m_at hr had (m_kfst hc.1 (by omega))
      obtain ⟨hK, hP, hD, hads, hlen, hall, hw1, hcr, hkd⟩ := hC
      obtain ⟨cA, f, t0, rfl, ht, hf⟩ := m_cr103 hcr hc.1
      have hin : vp_in I (m_kind h a).2 := m_vpin (by rw [hI]; exact hc.2.1) (by rw [hI]; exact hc.2.2)
      refine va_zald hx hb hK hP a.toNat t0 hw1 ht hin hd ?_
      refine m_k0 K hl ⟨m_i0 ?_, hs2⟩ hr hS
      rw [m_tn hI hc.2.1]
      exact hf _ (by omega)
    · cases hm
  · cases hm

theorem o_ascr (hx : p.tables.exec = Jvm.exec) (hb : c.code = cc) (hl : m_lr ads z nL ls rls) (hs : m_vrs ads z st rst) (hr : m_rep D A ads s h H) (hS : va_S A s.heap H locs) (hd : decode cc pc = .ok (.iaload, 1)) (hscr : va_X z.2.2.1 z.2.2.2.1 z.2.2.2.2 s s.heap ∧ z.2.2.1 < s.heap.size ∧ ¬ A z.2.2.1 ∧ z.2.2.2.1 ≤ 2560 ∧ h.1 1000001 0 = (z.2.2.2.1 : Int) ∧ ∀ j, j < z.2.2.2.1 → h.1 1000000 j = (z.2.2.2.2 j).toInt) (hm : m_ascr (pc + 1) ls st h = .ok (pc', ls', st', h')) (K : m_K p l e R s m args below meth c Q nL c0 s0 D A z ads pc' ls' st' h') : W p l e R s m args below meth c H locs (h.2.2.1 - c0) (h.2.2.2 - s0) Q (F0 m pc rls rst) := by
  unfold m_ascr at hm
  split at hm
  · next i x r =>
    split at hm
    · next hc =>
      cases hm
      obtain ⟨I, r1, rfl, hI, hs1⟩ := m_s0 hs
      obtain ⟨rr, rfl, hs2⟩ := m_s6 hs1
      obtain ⟨hX, hbl, hbA, hL, hn, hv⟩ := hscr
      rw [hn] at hc
      refine va_sld hx hb hX hbl hbA hS (m_vpin (by rw [hI]; exact hc.1) (by rw [hI]; exact hc.2)) hd ?_
      refine m_k0 K hl ⟨m_i0 ?_, hs2⟩ hr hS
      rw [m_tn hI hc.1]
      exact (hv _ (by omega)).symm
    · cases hm
  · cases hm

theorem o_iaload  (hx : p.tables.exec = Jvm.exec) (hb : c.code = cc) (hl : m_lr ads z nL ls rls) (hs : m_vrs ads z st rst) (hr : m_rep D A ads s h H) (hS : va_S A s.heap H locs) (hd : decode cc pc = .ok (.iaload, 1)) (hold : m_old z A s s.heap) (hscr : va_X z.2.2.1 z.2.2.2.1 z.2.2.2.2 s s.heap ∧ z.2.2.1 < s.heap.size ∧ ¬ A z.2.2.1 ∧ z.2.2.2.1 ≤ 2560 ∧ h.1 1000001 0 = (z.2.2.2.1 : Int) ∧ ∀ j, j < z.2.2.2.1 → h.1 1000000 j = (z.2.2.2.2 j).toInt) (hm : mstep (.iaload) q pc ls st h = .ok (pc', ls', st', h')) (K : m_K p l e R s m args below meth c Q nL c0 s0 D A z ads pc' ls' st' h') : W p l e R s m args below meth c H locs (h.2.2.1 - c0) (h.2.2.2 - s0) Q (F0 m pc rls rst) := by
  unfold mstep at hm
  dsimp only at hm
  split at hm
  · exact o_iatc hx hb hl hs hr hS hd hold hm K
  · exact o_ascr hx hb hl hs hr hS hd hscr hm K
  · exact o_iald hx hb hl hs hr hS hd hm K

theorem o_baload  (hx : p.tables.exec = Jvm.exec) (hb : c.code = cc) (hl : m_lr ads z nL ls rls) (hs : m_vrs ads z st rst) (hr : m_rep D A ads s h H) (hS : va_S A s.heap H locs) (hd : decode cc pc = .ok (.baload, 1)) (hold : m_old z A s s.heap) (hm : mstep (.baload) q pc ls st h = .ok (pc', ls', st', h')) (K : m_K p l e R s m args below meth c Q nL c0 s0 D A z ads pc' ls' st' h') : W p l e R s m args below meth c H locs (h.2.2.1 - c0) (h.2.2.2 - s0) Q (F0 m pc rls rst) := by
  unfold mstep at hm
  dsimp only at hm
  split at hm
  · exact o_batc hx hb hl hs hr hS hd hold hm K
  · exact o_bald hx hb hl hs hr hS hd hm K

theorem o_catc (hx : p.tables.exec = Jvm.exec) (hb : c.code = cc) (hl : m_lr ads z nL ls rls) (hs : m_vrs ads z st rst) (hr : m_rep D A ads s h H) (hS : va_S A s.heap H locs) (hd : decode cc pc = .ok (.caload, 1)) (hold : m_old z A s s.heap) (hm : m_atc (pc + 1) ls st h 3 5 = .ok (pc', ls', st', h')) (K : m_K p l e R s m args below meth c Q nL c0 s0 D A z ads pc' ls' st' h') : W p l e R s m args below meth c H locs (h.2.2.1 - c0) (h.2.2.2 - s0) Q (F0 m pc rls rst) := by
  unfold m_atc at hm
  split at hm
  · next i c9 r =>
    split at hm
    · next hc =>
      split at hm
      · next x hx9 =>
        cases hm
        obtain ⟨I, r1, rfl, hI, hs1⟩ := m_s0 hs
        obtain ⟨rr, rfl, h0, h1, hs2⟩ := m_s4 hs1
        have hrg := m_ct_rng hx9
        obtain ⟨-, -, -, -, -, -, -, -, -, hT3, -, hT4⟩ := hold
        have hlt := (List.getElem?_eq_some_iff.mp hx9).1
        have hcases : c9 = 3 ∨ c9 = 4 := by omega
        rcases hcases with rfl | rfl
        · have hin : vp_in I 13 := m_vpin (by rw [hI]; exact hc.1) (by rw [hI]; have : i.toNat < 13 := hlt; omega)
          refine va_tc hx hb hT3 hS hin rfl hd ?_
          refine m_k0 K hl ⟨?_, hs2⟩ hr hS
          show m_vr ads z (0, x) (.int (Int32.ofInt ((m_ct 3).getD I.toNatClampNeg 0)))
          rw [m_tn hI hc.1, m_getD (show (m_ct 3)[i.toNat]? = some x from hx9)]
          exact m_i0 (m_ofInt hrg.1 hrg.2)
        · have hin : vp_in I 22 := m_vpin (by rw [hI]; exact hc.1) (by rw [hI]; have : i.toNat < 22 := hlt; omega)
          refine va_tc hx hb hT4 hS hin rfl hd ?_
          refine m_k0 K hl ⟨?_, hs2⟩ hr hS
          show m_vr ads z (0, x) (.int (Int32.ofInt ((m_ct 4).getD I.toNatClampNeg 0)))
          rw [m_tn hI hc.1, m_getD (show (m_ct 4)[i.toNat]? = some x from hx9)]
          exact m_i0 (m_ofInt hrg.1 hrg.2)
      · cases hm
    · cases hm
  · cases hm

theorem o_cald  (hx : p.tables.exec = Jvm.exec) (hb : c.code = cc) (hl : m_lr ads z nL ls rls) (hs : m_vrs ads z st rst) (hr : m_rep D A ads s h H) (hS : va_S A s.heap H locs) (hd : decode cc pc = .ok (.caload, 1))  (hm : m_ald 102 0 (pc + 1) ls st h = .ok (pc', ls', st', h')) (K : m_K p l e R s m args below meth c Q nL c0 s0 D A z ads pc' ls' st' h') : W p l e R s m args below meth c H locs (h.2.2.1 - c0) (h.2.2.2 - s0) Q (F0 m pc rls rst) := by
  unfold m_ald at hm
  split at hm
  · next i a r =>
    split at hm
    · next hc =>
      cases hm
      obtain ⟨I, r1, rfl, hI, hs1⟩ := m_s0 hs
      obtain ⟨ad, rr, rfl, h0, had, hs2⟩ := m_s2 hs1
      obtain ⟨ws, tys, x9, hC⟩ := m_at hr had (m_kfst hc.1 (by omega))
      obtain ⟨hK, hP, hD, hads, hlen, hall, hw1, hcr, hkd⟩ := hC
      obtain ⟨⟨cA, f, t0, rfl, ht, hf⟩, -⟩ := m_cr102 hcr hc.1
      have hin : vp_in I (m_kind h a).2 := m_vpin (by rw [hI]; exact hc.2.1) (by rw [hI]; exact hc.2.2)
      refine va_cald hx hb hK hP a.toNat t0 hw1 ht hin hd ?_
      refine m_k0 K hl ⟨m_i0 ?_, hs2⟩ hr hS
      rw [m_tn hI hc.2.1]
      exact hf _ (by omega)
    · cases hm
  · cases hm

theorem o_caload  (hx : p.tables.exec = Jvm.exec) (hb : c.code = cc) (hl : m_lr ads z nL ls rls) (hs : m_vrs ads z st rst) (hr : m_rep D A ads s h H) (hS : va_S A s.heap H locs) (hd : decode cc pc = .ok (.caload, 1)) (hold : m_old z A s s.heap) (hm : mstep (.caload) q pc ls st h = .ok (pc', ls', st', h')) (K : m_K p l e R s m args below meth c Q nL c0 s0 D A z ads pc' ls' st' h') : W p l e R s m args below meth c H locs (h.2.2.1 - c0) (h.2.2.2 - s0) Q (F0 m pc rls rst) := by
  unfold mstep at hm
  dsimp only at hm
  split at hm
  · exact o_catc hx hb hl hs hr hS hd hold hm K
  · exact o_cald hx hb hl hs hr hS hd hm K

theorem o_laload  (hx : p.tables.exec = Jvm.exec) (hb : c.code = cc) (hl : m_lr ads z nL ls rls) (hs : m_vrs ads z st rst) (hr : m_rep D A ads s h H) (hS : va_S A s.heap H locs) (hd : decode cc pc = .ok (.laload, 1))  (hm : mstep (.laload) q pc ls st h = .ok (pc', ls', st', h')) (K : m_K p l e R s m args below meth c Q nL c0 s0 D A z ads pc' ls' st' h') : W p l e R s m args below meth c H locs (h.2.2.1 - c0) (h.2.2.2 - s0) Q (F0 m pc rls rst) := by
  unfold mstep at hm
  dsimp only at hm
  unfold m_ald at hm
  split at hm
  · next i a r =>
    split at hm
    · next hc =>
      cases hm
      obtain ⟨I, r1, rfl, hI, hs1⟩ := m_s0 hs
      obtain ⟨ad, rr, rfl, h0, had, hs2⟩ := m_s2 hs1
      obtain ⟨ws, tys, x9, hC⟩ := m_at hr had (m_kfst hc.1 (by omega))
      obtain ⟨hK, hP, hD, hads, hlen, hall, hw1, hcr, hkd⟩ := hC
      obtain ⟨cA, f, t0, rfl, ht, hf⟩ := m_cr101 hcr hc.1
      have hin : vp_in I (m_kind h a).2 := m_vpin (by rw [hI]; exact hc.2.1) (by rw [hI]; exact hc.2.2)
      refine va_lald hx hb hK hP a.toNat t0 hw1 ht hin hd ?_
      refine m_k0 K hl ⟨m_i1 ?_, hs2⟩ hr hS
      rw [m_tn hI hc.2.1]
      exact hf _ (by omega)
    · cases hm
  · cases hm

theorem o_iastore  (hx : p.tables.exec = Jvm.exec) (hb : c.code = cc) (hl : m_lr ads z nL ls rls) (hs : m_vrs ads z st rst) (hr : m_rep D A ads s h H) (hS : va_S A s.heap H locs) (hd : decode cc pc = .ok (.iastore, 1))  (hm : mstep (.iastore) q pc ls st h = .ok (pc', ls', st', h')) (K : m_K p l e R s m args below meth c Q nL c0 s0 D A z ads pc' ls' st' h') : W p l e R s m args below meth c H locs (h.2.2.1 - c0) (h.2.2.2 - s0) Q (F0 m pc rls rst) := by
  unfold mstep at hm
  dsimp only at hm
  unfold m_ast at hm
  split at hm
  · next t x i a r =>
    split at hm
    · next hc =>
      cases hm
      obtain ⟨X0, r0, rfl, hX0, hs0⟩ := m_sv hs
      obtain ⟨hsr, hz0, hbool, hrange, hz1, -, -⟩ := m_fitv hc.2.2.2 hX0
      obtain rfl : t = 0 := hz0 (by omega)
      obtain ⟨X, rfl, hX⟩ := hX0
      dsimp only at hX
      obtain ⟨I, r1, rfl, hI, hs1⟩ := m_s0 hs0
      obtain ⟨ad, rr, rfl, h0, had, hs2⟩ := m_s2 hs1
      obtain ⟨ws, tys, x9, hC⟩ := m_at hr had (m_kfst hc.1 (by omega))
      have hC0 := hC
      obtain ⟨hK, hP, hD, hads, hlen, hall, hw1, hcr, hkd⟩ := hC
      obtain ⟨cA, f, t0, rfl, ht, hf⟩ := m_cr100 hcr hc.1
      have hin : vp_in I (m_kind h a).2 := m_vpin (by rw [hI]; exact hc.2.1) (by rw [hI]; exact hc.2.2.1)
      
      refine va_iast hx hb hK hP hD hS a.toNat t0 hw1 ht hin hd (fun H1 locs1 hP1 hD1 hS1 => ?_)
      rw [m_tn hI hc.2.1] at hP1 hD1
      refine m_k0 (h := (m_up h.1 a.toNat i.toNat x, h.2)) K hl hs2 (m_setrep hC0 hP1 hD1 ?_ (fun j hj => m_up_ne hj)) hS1
      · exact m_mk100 hcr.1 hc.1 ⟨cA, _, t0, rfl, ht, m_updI hX hf⟩
    · cases hm
  · cases hm

theorem o_lastore  (hx : p.tables.exec = Jvm.exec) (hb : c.code = cc) (hl : m_lr ads z nL ls rls) (hs : m_vrs ads z st rst) (hr : m_rep D A ads s h H) (hS : va_S A s.heap H locs) (hd : decode cc pc = .ok (.lastore, 1))  (hm : mstep (.lastore) q pc ls st h = .ok (pc', ls', st', h')) (K : m_K p l e R s m args below meth c Q nL c0 s0 D A z ads pc' ls' st' h') : W p l e R s m args below meth c H locs (h.2.2.1 - c0) (h.2.2.2 - s0) Q (F0 m pc rls rst) := by
  unfold mstep at hm
  dsimp only at hm
  unfold m_ast at hm
  split at hm
  · next t x i a r =>
    split at hm
    · next hc =>
      cases hm
      obtain ⟨X0, r0, rfl, hX0, hs0⟩ := m_sv hs
      obtain ⟨hsr, hz0, hbool, hrange, hz1, -, -⟩ := m_fitv hc.2.2.2 hX0
      obtain rfl : t = 1 := hz1 rfl
      obtain ⟨X, rfl, hX⟩ := hX0
      dsimp only at hX
      obtain ⟨I, r1, rfl, hI, hs1⟩ := m_s0 hs0
      obtain ⟨ad, rr, rfl, h0, had, hs2⟩ := m_s2 hs1
      obtain ⟨ws, tys, x9, hC⟩ := m_at hr had (m_kfst hc.1 (by omega))
      have hC0 := hC
      obtain ⟨hK, hP, hD, hads, hlen, hall, hw1, hcr, hkd⟩ := hC
      obtain ⟨cA, f, t0, rfl, ht, hf⟩ := m_cr101 hcr hc.1
      have hin : vp_in I (m_kind h a).2 := m_vpin (by rw [hI]; exact hc.2.1) (by rw [hI]; exact hc.2.2.1)
      
      refine va_last hx hb hK hP hD hS a.toNat t0 hw1 ht hin hd (fun H1 locs1 hP1 hD1 hS1 => ?_)
      rw [m_tn hI hc.2.1] at hP1 hD1
      refine m_k0 (h := (m_up h.1 a.toNat i.toNat x, h.2)) K hl hs2 (m_setrep hC0 hP1 hD1 ?_ (fun j hj => m_up_ne hj)) hS1
      · exact m_mk101 hcr.1 hc.1 ⟨cA, _, t0, rfl, ht, m_updL hX hf⟩
    · cases hm
  · cases hm

theorem o_castore  (hx : p.tables.exec = Jvm.exec) (hb : c.code = cc) (hl : m_lr ads z nL ls rls) (hs : m_vrs ads z st rst) (hr : m_rep D A ads s h H) (hS : va_S A s.heap H locs) (hd : decode cc pc = .ok (.castore, 1))  (hm : mstep (.castore) q pc ls st h = .ok (pc', ls', st', h')) (K : m_K p l e R s m args below meth c Q nL c0 s0 D A z ads pc' ls' st' h') : W p l e R s m args below meth c H locs (h.2.2.1 - c0) (h.2.2.2 - s0) Q (F0 m pc rls rst) := by
  unfold mstep at hm
  dsimp only at hm
  unfold m_ast at hm
  split at hm
  · next t x i a r =>
    split at hm
    · next hc =>
      cases hm
      obtain ⟨X0, r0, rfl, hX0, hs0⟩ := m_sv hs
      obtain ⟨hsr, hz0, hbool, hrange, hz1, -, -⟩ := m_fitv hc.2.2.2 hX0
      obtain rfl : t = 0 := hz0 (by omega)
      obtain ⟨X, rfl, hX⟩ := hX0
      dsimp only at hX
      obtain ⟨I, r1, rfl, hI, hs1⟩ := m_s0 hs0
      obtain ⟨ad, rr, rfl, h0, had, hs2⟩ := m_s2 hs1
      obtain ⟨ws, tys, x9, hC⟩ := m_at hr had (m_kfst hc.1 (by omega))
      have hC0 := hC
      obtain ⟨hK, hP, hD, hads, hlen, hall, hw1, hcr, hkd⟩ := hC
      obtain ⟨⟨cA, f, t0, rfl, ht, hf⟩, hcg⟩ := m_cr102 hcr hc.1
      have hin : vp_in I (m_kind h a).2 := m_vpin (by rw [hI]; exact hc.2.1) (by rw [hI]; exact hc.2.2.1)
      have hnar : narrow .char (.int X) = .int X := m_nar_char (by rw [hX]; exact (hrange rfl).1) (by rw [hX]; exact (hrange rfl).2)
      refine va_cast hx hb hK hP hD hS a.toNat t0 hw1 ht hin hd (fun H1 locs1 hP1 hD1 hS1 => ?_)
      rw [m_tn hI hc.2.1] at hP1 hD1
      refine m_k0 (h := (m_up h.1 a.toNat i.toNat x, h.2)) K hl hs2 (m_setrep hC0 hP1 hD1 ?_ (fun j hj => m_up_ne hj)) hS1
      · refine m_mk102 hcr.1 hc.1 ⟨⟨cA, _, t0, rfl, ht, by rw [m_vpnar hnar]; exact m_updI hX hf⟩, fun j hj => ?_⟩
        rw [m_up_at]
        split
        · exact hrange rfl
        · exact hcg j hj
    · cases hm
  · cases hm

theorem o_bastore  (hx : p.tables.exec = Jvm.exec) (hb : c.code = cc) (hl : m_lr ads z nL ls rls) (hs : m_vrs ads z st rst) (hr : m_rep D A ads s h H) (hS : va_S A s.heap H locs) (hd : decode cc pc = .ok (.bastore, 1))  (hm : mstep (.bastore) q pc ls st h = .ok (pc', ls', st', h')) (K : m_K p l e R s m args below meth c Q nL c0 s0 D A z ads pc' ls' st' h') : W p l e R s m args below meth c H locs (h.2.2.1 - c0) (h.2.2.2 - s0) Q (F0 m pc rls rst) := by
  unfold mstep at hm
  dsimp only at hm
  unfold m_ast at hm
  split at hm
  · next t x i a r =>
    split at hm
    · next hc =>
      cases hm
      obtain ⟨X0, r0, rfl, hX0, hs0⟩ := m_sv hs
      obtain ⟨hsr, hz0, hbool, hrange, hz1, -, -⟩ := m_fitv hc.2.2.2 hX0
      obtain rfl : t = 0 := hz0 (by omega)
      obtain ⟨X, rfl, hX⟩ := hX0
      dsimp only at hX
      obtain ⟨I, r1, rfl, hI, hs1⟩ := m_s0 hs0
      obtain ⟨ad, rr, rfl, h0, had, hs2⟩ := m_s2 hs1
      obtain ⟨ws, tys, x9, hC⟩ := m_at hr had (m_kfst hc.1 (by omega))
      have hC0 := hC
      obtain ⟨hK, hP, hD, hads, hlen, hall, hw1, hcr, hkd⟩ := hC
      obtain ⟨cA, f, t0, rfl, ht, hf⟩ := m_cr103 hcr hc.1
      have hin : vp_in I (m_kind h a).2 := m_vpin (by rw [hI]; exact hc.2.1) (by rw [hI]; exact hc.2.2.1)
      have hnar : narrow .boolean (.int X) = .int X := m_nar_bool (by rw [hX]; exact hbool rfl)
      refine va_zast hx hb hK hP hD hS a.toNat t0 hw1 ht hin hd (fun H1 locs1 hP1 hD1 hS1 => ?_)
      rw [m_tn hI hc.2.1] at hP1 hD1
      refine m_k0 (h := (m_up h.1 a.toNat i.toNat x, h.2)) K hl hs2 (m_setrep hC0 hP1 hD1 ?_ (fun j hj => m_up_ne hj)) hS1
      · exact m_mk103 hcr.1 hc.1 ⟨cA, _, t0, rfl, ht, by rw [m_vpnar hnar]; exact m_updI hX hf⟩
    · cases hm
  · cases hm

theorem o_aaload  (hx : p.tables.exec = Jvm.exec) (hb : c.code = cc) (hl : m_lr ads z nL ls rls) (hs : m_vrs ads z st rst) (hr : m_rep D A ads s h H) (hS : va_S A s.heap H locs) (hd : decode cc pc = .ok (.aaload, 1))  (hm : mstep (.aaload) q pc ls st h = .ok (pc', ls', st', h')) (K : m_K p l e R s m args below meth c Q nL c0 s0 D A z ads pc' ls' st' h') : W p l e R s m args below meth c H locs (h.2.2.1 - c0) (h.2.2.2 - s0) Q (F0 m pc rls rst) := by
  unfold mstep at hm
  dsimp only at hm
  unfold m_aald at hm
  split at hm
  · next i a r =>
    split at hm
    · next hc =>
      cases hm
      obtain ⟨I, r1, rfl, hI, hs1⟩ := m_s0 hs
      obtain ⟨ad, rr, rfl, h0, had, hs2⟩ := m_s2 hs1
      obtain ⟨ws, tys, x9, hC⟩ := m_at hr had (by omega)
      obtain ⟨hK, hP, hD, hads, hlen, hall, hw1, hcr, hkd⟩ := hC
      obtain ⟨q2, cA, f, t0, hq2, rfl, ht, hf⟩ := m_cr110 hcr hc.1 hc.2.1
      have hin : vp_in I (m_kind h a).2 := m_vpin (by rw [hI]; exact hc.2.2.1) (by rw [hI]; exact hc.2.2.2.1)
      refine va_aldq hx hb hK hP a.toNat t0 hw1 ht hin hd ?_
      rw [m_tn hI hc.2.2.1]
      rcases hf i.toNat (by omega) with ⟨e1, -⟩ | ⟨e0, b, hb2, e1⟩
      · omega
      · rw [e1]
        exact m_k0 K hl ⟨⟨e0, b, hb2, rfl⟩, hs2⟩ hr hS
    · cases hm
  · cases hm

theorem o_aastore  (hx : p.tables.exec = Jvm.exec) (hb : c.code = cc) (hl : m_lr ads z nL ls rls) (hs : m_vrs ads z st rst) (hr : m_rep D A ads s h H) (hS : va_S A s.heap H locs) (hd : decode cc pc = .ok (.aastore, 1))  (hm : mstep (.aastore) q pc ls st h = .ok (pc', ls', st', h')) (K : m_K p l e R s m args below meth c Q nL c0 s0 D A z ads pc' ls' st' h') : W p l e R s m args below meth c H locs (h.2.2.1 - c0) (h.2.2.2 - s0) Q (F0 m pc rls rst) := by
  unfold mstep at hm
  dsimp only at hm
  unfold m_aast at hm
  split at hm
  · next x i a r =>
    split at hm
    · next hc =>
      cases hm
      obtain ⟨vd, r0, rfl, hv0, hvd, hs0⟩ := m_s2 hs
      obtain ⟨I, r1, rfl, hI, hs1⟩ := m_s0 hs0
      obtain ⟨ad, rr, rfl, h0, had, hs2⟩ := m_s2 hs1
      obtain ⟨ws, tys, x9, hC⟩ := m_at hr had (by omega)
      have hC0 := hC
      obtain ⟨hK, hP, hD, hads, hlen, hall, hw1, hcr, hkd⟩ := hC
      obtain ⟨q2, cA, f, t0, hq2, rfl, ht, hf⟩ := m_cr110 hcr (by omega) (by omega)
      -- the thing that is put
      have hkx : (h.2.1)[x.toNat]? = some (m_kind h x) := by
        have hne : (m_kind h x).1 ≠ 999 := by omega
        unfold m_kind at hne ⊢
        rw [if_pos hv0] at hne ⊢
        cases hg : (h.2.1)[x.toNat]? with
        | none => rw [hg] at hne; exact absurd rfl hne
        | some kd => rfl
      obtain ⟨a2, y, hwx, hcx⟩ := hall _ _ hkx
      have ea : a2 = vd := by
        have : (ws.map (fun q => q.1))[x.toNat]? = some a2 := by rw [List.getElem?_map, hwx]; rfl
        rw [hads, hvd] at this
        exact (Option.some.inj this).symm
      subst ea
      have hidx : (m_kind h a).1 - 110 = (m_kind h x).1 := by omega
      rw [hidx] at hq2
      have hlt : (m_kind h x).1 < 13 := Nat.lt_of_lt_of_le (List.getElem?_eq_some_iff.mp hq2).1 (show m_cl.length ≤ 13 by decide)
      have hcx2 := hcx.2
      rw [if_pos hlt] at hcx2
      obtain ⟨fs, q3, rfl, hq3, -⟩ := hcx2
      have hin : vp_in I (m_kind h a).2 := m_vpin (by rw [hI]; exact hc.2.2.1) (by rw [hI]; exact hc.2.2.2)
      refine va_astq hx hb hK hP hD hS a.toNat t0 x.toNat (m_kind h x).1 hw1 ht hwx hq2 hin hd (fun H1 locs1 hP1 hD1 hS1 => ?_)
      rw [m_tn hI hc.2.2.1] at hP1 hD1
      refine m_k0 (h := (m_up h.1 a.toNat i.toNat x, h.2)) K hl hs2 (m_setrep hC0 hP1 hD1 ?_ (fun j hj => m_up_ne hj)) hS1
      refine m_mk110 hcr.1 (by omega) (by omega) ⟨q2, cA, _, t0, by rw [hidx]; exact hq2, rfl, ht, fun j hj => ?_⟩
      rw [m_up_at]
      unfold va_up
      by_cases e9 : j = i.toNat
      · rw [if_pos e9, if_pos e9]
        exact Or.inr ⟨hv0, a2, hvd, rfl⟩
      · rw [if_neg e9, if_neg e9]
        exact hf j hj
    · cases hm
  · cases hm

theorem o_arraylength  (hx : p.tables.exec = Jvm.exec) (hb : c.code = cc) (hl : m_lr ads z nL ls rls) (hs : m_vrs ads z st rst) (hr : m_rep D A ads s h H) (hS : va_S A s.heap H locs) (hd : decode cc pc = .ok (.arraylength, 1)) (hold : m_old z A s s.heap) (hscr : va_X z.2.2.1 z.2.2.2.1 z.2.2.2.2 s s.heap ∧ z.2.2.1 < s.heap.size ∧ ¬ A z.2.2.1 ∧ z.2.2.2.1 ≤ 2560 ∧ h.1 1000001 0 = (z.2.2.2.1 : Int) ∧ ∀ j, j < z.2.2.2.1 → h.1 1000000 j = (z.2.2.2.2 j).toInt) (hm : mstep (.arraylength) q pc ls st h = .ok (pc', ls', st', h')) (K : m_K p l e R s m args below meth c Q nL c0 s0 D A z ads pc' ls' st' h') : W p l e R s m args below meth c H locs (h.2.2.1 - c0) (h.2.2.2 - s0) Q (F0 m pc rls rst) := by
  unfold mstep at hm
  dsimp only at hm
  unfold m_alen at hm
  split at hm
  · next a r =>
    split at hm
    · next hc =>
      cases hm
      obtain ⟨ad, rr, rfl, h0, had, hs2⟩ := m_s2 hs
      obtain ⟨ws, tys, x9, hC⟩ := m_at hr had (by omega)
      obtain ⟨hK, hP, hD, hads, hlen, hall, hw1, hcr, hkd⟩ := hC
      have hn : (Int32.ofNat (m_kind h a).2).toInt = ((m_kind h a).2 : Int) := by
        have := hcr.1
        rw [← Int32.ofInt_eq_ofNat]
        exact m_ofInt (by omega) (by omega)
      by_cases e0 : (m_kind h a).1 = 100
      · obtain ⟨cA, f, t0, rfl, ht, hf⟩ := m_cr100 hcr e0
        exact va_alen hx hb hK hP a.toNat t0 hw1 ht rfl hd (m_k0 K hl ⟨m_i0 hn, hs2⟩ hr hS)
      by_cases e1 : (m_kind h a).1 = 101
      · obtain ⟨cA, f, t0, rfl, ht, hf⟩ := m_cr101 hcr e1
        exact va_alen hx hb hK hP a.toNat t0 hw1 ht rfl hd (m_k0 K hl ⟨m_i0 hn, hs2⟩ hr hS)
      by_cases e2 : (m_kind h a).1 = 102
      · obtain ⟨⟨cA, f, t0, rfl, ht, hf⟩, -⟩ := m_cr102 hcr e2
        exact va_alen hx hb hK hP a.toNat t0 hw1 ht rfl hd (m_k0 K hl ⟨m_i0 hn, hs2⟩ hr hS)
      by_cases e3 : (m_kind h a).1 = 103
      · obtain ⟨cA, f, t0, rfl, ht, hf⟩ := m_cr103 hcr e3
        exact va_alen hx hb hK hP a.toNat t0 hw1 ht rfl hd (m_k0 K hl ⟨m_i0 hn, hs2⟩ hr hS)
      have h9 := hcr.2
      rw [if_neg (by omega), if_neg e0, if_neg e1, if_neg e2, if_neg e3] at h9
      split at h9
      · next h10 =>
        obtain ⟨q2, cA, f, t0, hq2, rfl, ht, hf⟩ := h9
        exact va_alen hx hb hK hP a.toNat t0 hw1 ht rfl hd (m_k0 K hl ⟨m_i0 hn, hs2⟩ hr hS)
      · exact h9.elim
    · cases hm
  · next c9 r =>
    split at hm
    · next hc =>
      cases hm
      obtain ⟨rr, rfl, h0, h1, hs2⟩ := m_s4 hs
      obtain ⟨⟨hSt, -⟩, -, -, -, -, -, -, hT2, -, hT3, -, hT4⟩ := hold
      have hn : ∀ n : Nat, n < 100 → (Int32.ofNat n).toInt = (n : Int) := fun n hn => by
        rw [← Int32.ofInt_eq_ofNat]
        exact m_ofInt (by omega) (by omega)
      by_cases e2 : c9 = 2
      · subst e2
        exact va_tlen hx hb hT2 hS rfl hd (m_k0 K hl ⟨m_i0 (hn 9 (by omega)), hs2⟩ hr hS)
      by_cases e3 : c9 = 3
      · subst e3
        exact va_tlen hx hb hT3 hS rfl hd (m_k0 K hl ⟨m_i0 (hn 13 (by omega)), hs2⟩ hr hS)
      by_cases e4 : c9 = 4
      · subst e4
        exact va_tlen hx hb hT4 hS rfl hd (m_k0 K hl ⟨m_i0 (hn 22 (by omega)), hs2⟩ hr hS)
      obtain ⟨k, rfl⟩ : ∃ k : Nat, c9 = (k : Int) + 5 := ⟨(c9 - 5).toNat, by omega⟩
      have hk : ((k : Int) + 5).toNat = k + 5 := by omega
      obtain ⟨hO, hco, hva, hT⟩ := hSt k (by omega)
      obtain ⟨hb1, hb2⟩ := m_ctb k (by omega)
      rw [hk] at K ⊢
      refine va_tlen hx hb hT hS rfl hd (m_k0 K hl ⟨m_i0 ?_, hs2⟩ hr hS)
      rw [hb2]
      exact hn _ (m_ctl k (by omega))
    · cases hm
  · next x r =>
    cases hm
    obtain ⟨rr, rfl, hs2⟩ := m_s6 hs
    obtain ⟨hX, hbl, hbA, hL, hn, hv⟩ := hscr
    refine va_slen hx hb hX hbl hbA hS hd ?_
    refine m_k0 K hl ⟨m_i0 ?_, hs2⟩ hr hS
    rw [hn]
    show (Int32.ofNat _).toInt = _
    rw [← Int32.ofInt_eq_ofNat]
    exact m_ofInt (by omega) (by omega)
  · cases hm
end M9
