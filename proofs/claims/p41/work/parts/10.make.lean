/-! THE SMALL MACHINE'S INSTRUCTIONS OVER THE MACHINE: things made, statics, texts, copies -/
theorem m_cr_up {ads : List Nat} {tys : List (ClassId × FieldType)} {k : Nat × Nat} {F : Nat → Int} {x : va_E} (b : List Nat) (tt : List (ClassId × FieldType)) (h : m_cr ads tys k F x) : m_cr (ads ++ b) (tys ++ tt) k F x := by
  have ht : ∀ {i : Nat} {v : ClassId × FieldType}, tys[i]? = some v → (tys ++ tt)[i]? = some v := fun h => by rw [List.getElem?_append_left (List.getElem?_eq_some_iff.mp h).1]; exact h
  refine ⟨h.1, ?_⟩
  have h2 := h.2
  split at h2
  · next e =>
    rw [if_pos e]
    obtain ⟨fs, q, e1, e2, e3, e4, e5⟩ := h2
    exact ⟨fs, q, e1, e2, e3, e4, fun i hi => by obtain ⟨r, r1, r2⟩ := e5 i hi; exact ⟨r, r1, m_sr_up b r2⟩⟩
  · next e =>
    rw [if_neg e]
    split at h2
    · next e =>
      rw [if_pos e]
      obtain ⟨cA, f, t0, e1, e2, e3⟩ := h2
      exact ⟨cA, f, t0, e1, ht e2, e3⟩
    · next e =>
      rw [if_neg e]
      split at h2
      · next e =>
        rw [if_pos e]
        obtain ⟨cA, f, t0, e1, e2, e3⟩ := h2
        exact ⟨cA, f, t0, e1, ht e2, e3⟩
      · next e =>
        rw [if_neg e]
        split at h2
        · next e =>
          rw [if_pos e]
          obtain ⟨⟨cA, f, t0, e1, e2, e3⟩, e4⟩ := h2
          exact ⟨⟨cA, f, t0, e1, ht e2, e3⟩, e4⟩
        · next e =>
          rw [if_neg e]
          split at h2
          · next e =>
            rw [if_pos e]
            obtain ⟨cA, f, t0, e1, e2, e3⟩ := h2
            exact ⟨cA, f, t0, e1, ht e2, e3⟩
          · next e =>
            rw [if_neg e]
            split at h2
            · next e =>
              rw [if_pos e]
              obtain ⟨q, cA, f, t0, e1, e2, e3, e4⟩ := h2
              refine ⟨q, cA, f, t0, e1, e2, ht e3, fun i hi => ?_⟩
              rcases e4 i hi with e5 | ⟨e5, a, e6, e7⟩
              · exact Or.inl e5
              · exact Or.inr ⟨e5, a, by rw [List.getElem?_append_left (List.getElem?_eq_some_iff.mp e6).1]; exact e6, e7⟩
            · exact h2.elim
theorem m_fty5 : ∀ ci, ci < 13 → ∀ k, k < (m_cl.map (fun q => q.2.2)).getD ci 0 → m_fty ci k < 5 := by decide +kernel
theorem m_push {D : va_G} {A : Nat → Prop} {ads : List Nat} {s : State} {h : MH} {ws : va_W} {tys tt : List (ClassId × FieldType)} {H1 : Heap} {F : Nat → Nat → Int} {kd : Nat × Nat} {q : Nat} {x : va_E} {c9 s9 : Nat}
    (hads : ws.map (fun q => q.1) = ads) (hlen : ws.length = h.2.1.length) (hall : ∀ (k : Nat) (kd : Nat × Nat), h.2.1[k]? = some kd → ∃ (a : Nat) (e : va_E), ws[k]? = some (a, e) ∧ m_cr ads tys kd (h.1 k) e)
    (hK : va_K D m_cl (tys ++ tt) s) (hP : va_P D m_cl (ws ++ [(q, x)]) H1) (hD : va_D A (ws ++ [(q, x)])) (hF : ∀ k, k < h.2.1.length → F k = h.1 k) (hx : m_cr (ads ++ [q]) (tys ++ tt) kd (F h.2.1.length) x) :
    m_rep D A (ads ++ [q]) s (F, h.2.1 ++ [kd], c9, s9) H1 ∧ (ads ++ [q])[h.2.1.length]? = some q := by
  have hal : ads.length = h.2.1.length := by rw [← hads, List.length_map, hlen]
  refine ⟨⟨ws ++ [(q, x)], tys ++ tt, hK, hP, hD, by rw [List.map_append, hads]; rfl, by show _ = (h.2.1 ++ [kd]).length; rw [List.length_append, List.length_append, hlen]; rfl, fun k kj hk => ?_⟩, by rw [← hal, List.getElem?_append_right (Nat.le_refl _), Nat.sub_self]; rfl⟩
  have hk : (h.2.1 ++ [kd])[k]? = some kj := hk
  by_cases e : k < h.2.1.length
  · rw [List.getElem?_append_left e] at hk
    obtain ⟨a, y, h1, h2⟩ := hall k kj hk
    refine ⟨a, y, by rw [List.getElem?_append_left (by omega)]; exact h1, ?_⟩
    show m_cr _ _ kj (F k) y
    rw [hF k e]
    exact m_cr_up _ _ h2
  · have hlt := (List.getElem?_eq_some_iff.mp hk).1
    rw [List.length_append, List.length_singleton] at hlt
    have e2 : k = h.2.1.length := by omega
    subst e2
    rw [List.getElem?_append_right (Nat.le_refl _), Nat.sub_self] at hk
    cases hk
    refine ⟨q, x, by rw [← hlen, List.getElem?_append_right (Nat.le_refl _), Nat.sub_self]; rfl, hx⟩
section M10
variable {p : Program} {l : Launch} {e : Jvm.Env} {R : Room} {s : State} {m : MethodId} {args : Array Value} {below : List Frame} {meth : Method} {c : Code} {Q : State → Prop} {cc : ByteArray} {own : String} {nL c0 s0 : Nat} {D : va_G} {A : Nat → Prop} {z : m_Z} {ads : List Nat} {q : LK} {pc pc' : Nat} {ls ls' : ML} {st st' : List MV} {h h' : MH} {rls : Array Slot} {rst : List Value} {H : Heap} {locs : List Loc}
theorem lv_ldcwS (hexec : p.tables.exec = Jvm.exec) (hb : c.code = cc) {own tx : String} {index q : Nat} {cells slots : Nat} {rest : List Value} {ls : Array Slot} (hown : s.vm.findClass own = some m.cls) (hZ : vk_R own index tx q s) (hdg : decode cc pc = .ok (.ldc_w index, 3))
    (k : W p l e R s m args below meth c H locs cells slots Q (F0 m (pc + 3) ls (.ref q :: rest))) : W p l e R s m args below meth c H locs cells slots Q (F0 m pc ls rest) := by
  intro T hT X
  obtain ⟨t, a1, b1⟩ := k T hT X
  exact ⟨t, X.ldcStringW hexec hown (text := tx) (a := q) hZ.1 hZ.2 (g := F0 m pc ls rest) rfl (by rw [hb]; exact hdg) t a1, b1⟩
theorem m_kc {cells slots a b : Nat} {g : JFrame} (h1 : a = cells) (h2 : b = slots) (k : W p l e R s m args below meth c H locs a b Q g) : W p l e R s m args below meth c H locs cells slots Q g := by
  subst h1; subst h2; exact k

theorem o_newarray_int  (hx : p.tables.exec = Jvm.exec) (hb : c.code = cc) (hl : m_lr ads z nL ls rls) (hs : m_vrs ads z st rst) (hr : m_rep D A ads s h H) (hS : va_S A s.heap H locs) (hd : decode cc pc = .ok (.newarray .int, 2)) (harr : (Cond.arrayClass .int).before args s = true) (hA : ∀ q, s.heap.size ≤ q → A q) (hc0 : c0 ≤ h.2.2.1) (hs0 : s0 ≤ h.2.2.2) (hRc : h'.2.2.1 - c0 ≤ R.cells) (hRs : h'.2.2.2 - s0 ≤ R.slots) (hm : mstep (.newarray .int) q pc ls st h = .ok (pc', ls', st', h')) (K : m_K p l e R s m args below meth c Q nL c0 s0 D A z ads pc' ls' st' h') : W p l e R s m args below meth c H locs (h.2.2.1 - c0) (h.2.2.2 - s0) Q (F0 m pc rls rst) := by
  unfold mstep at hm
  dsimp only at hm
  unfold m_mkarr at hm
  split at hm
  · next n r =>
    split at hm
    · next hc =>
      cases hm
      obtain ⟨N, rr, rfl, hN2, hs2⟩ := m_s0 hs
      obtain ⟨ws, tys, hK, hP, hD, hads, hlen, hall⟩ := hr
      have hNn : N.toNatClampNeg = n.toNat := m_tn hN2 hc.1
      have hRc : h.2.2.1 + 1 - c0 ≤ R.cells := hRc
      have hRs : h.2.2.2 + n.toNat - s0 ≤ R.slots := hRs
      refine va_newa hx hb (atype := .int) harr rfl hK hP hD hS hA (N' := N.toNatClampNeg) (a0 := (N.toNatClampNeg, .inl (fun _ => 0))) (fun _ => rfl) (by rw [Int32.lt_iff_toInt_lt, hN2, m_z32]; omega) rfl (by rw [hNn]; show n.toNat * 4 ≤ _; omega) (by omega) (by omega) hd (fun qa cA H1 hK1 hP1 hD1 hS1 => ?_)
      obtain ⟨hr1, had1⟩ := m_push (F := (m_new 100 n.toNat 0 h).1) (kd := (100, n.toNat)) (c9 := h.2.2.1 + 1) (s9 := h.2.2.2 + n.toNat) hads hlen hall hK1 hP1 hD1 (fun k hk => by
        funext j
        show (if k = h.2.1.length then _ else _) = _
        rw [if_neg (by omega)]) (by
        rw [← hNn]
        have hz : (m_new 100 N.toNatClampNeg 0 h).1 h.2.1.length = fun _ => 0 := by
          funext j
          show (if h.2.1.length = h.2.1.length then _ else _) = _
          rw [if_pos rfl]
        rw [hz]
        exact m_mk100 (by show (N.toNatClampNeg) < 100000; rw [m_tn hN2 hc.1]; omega) rfl ⟨cA, _, tys.length, rfl, (by simp; rfl), fun i hi => rfl⟩)
      refine m_kc (a := h.2.2.1 + 1 - c0) (b := h.2.2.2 + n.toNat - s0) (by omega) (by omega) ?_
      refine K [qa] rls (.ref qa :: rr) H1 locs (m_lr_up _ hl) ⟨⟨by omega, qa, ?_, rfl⟩, m_vrs_up _ hs2⟩ hr1 hS1
      rw [Int.toNat_natCast]
      exact had1
    · cases hm
  · cases hm

theorem o_newarray_long  (hx : p.tables.exec = Jvm.exec) (hb : c.code = cc) (hl : m_lr ads z nL ls rls) (hs : m_vrs ads z st rst) (hr : m_rep D A ads s h H) (hS : va_S A s.heap H locs) (hd : decode cc pc = .ok (.newarray .long, 2)) (harr : (Cond.arrayClass .long).before args s = true) (hA : ∀ q, s.heap.size ≤ q → A q) (hc0 : c0 ≤ h.2.2.1) (hs0 : s0 ≤ h.2.2.2) (hRc : h'.2.2.1 - c0 ≤ R.cells) (hRs : h'.2.2.2 - s0 ≤ R.slots) (hm : mstep (.newarray .long) q pc ls st h = .ok (pc', ls', st', h')) (K : m_K p l e R s m args below meth c Q nL c0 s0 D A z ads pc' ls' st' h') : W p l e R s m args below meth c H locs (h.2.2.1 - c0) (h.2.2.2 - s0) Q (F0 m pc rls rst) := by
  unfold mstep at hm
  dsimp only at hm
  unfold m_mkarr at hm
  split at hm
  · next n r =>
    split at hm
    · next hc =>
      cases hm
      obtain ⟨N, rr, rfl, hN2, hs2⟩ := m_s0 hs
      obtain ⟨ws, tys, hK, hP, hD, hads, hlen, hall⟩ := hr
      have hNn : N.toNatClampNeg = n.toNat := m_tn hN2 hc.1
      have hRc : h.2.2.1 + 1 - c0 ≤ R.cells := hRc
      have hRs : h.2.2.2 + n.toNat - s0 ≤ R.slots := hRs
      refine va_newa hx hb (atype := .long) harr rfl hK hP hD hS hA (N' := N.toNatClampNeg) (a0 := (N.toNatClampNeg, .inr (.inl (fun _ => 0)))) (fun _ => rfl) (by rw [Int32.lt_iff_toInt_lt, hN2, m_z32]; omega) rfl (by rw [hNn]; show n.toNat * 8 ≤ _; omega) (by omega) (by omega) hd (fun qa cA H1 hK1 hP1 hD1 hS1 => ?_)
      obtain ⟨hr1, had1⟩ := m_push (F := (m_new 101 n.toNat 0 h).1) (kd := (101, n.toNat)) (c9 := h.2.2.1 + 1) (s9 := h.2.2.2 + n.toNat) hads hlen hall hK1 hP1 hD1 (fun k hk => by
        funext j
        show (if k = h.2.1.length then _ else _) = _
        rw [if_neg (by omega)]) (by
        rw [← hNn]
        have hz : (m_new 101 N.toNatClampNeg 0 h).1 h.2.1.length = fun _ => 0 := by
          funext j
          show (if h.2.1.length = h.2.1.length then _ else _) = _
          rw [if_pos rfl]
        rw [hz]
        exact m_mk101 (by show (N.toNatClampNeg) < 100000; rw [m_tn hN2 hc.1]; omega) rfl ⟨cA, _, tys.length, rfl, (by simp; rfl), fun i hi => rfl⟩)
      refine m_kc (a := h.2.2.1 + 1 - c0) (b := h.2.2.2 + n.toNat - s0) (by omega) (by omega) ?_
      refine K [qa] rls (.ref qa :: rr) H1 locs (m_lr_up _ hl) ⟨⟨by omega, qa, ?_, rfl⟩, m_vrs_up _ hs2⟩ hr1 hS1
      rw [Int.toNat_natCast]
      exact had1
    · cases hm
  · cases hm

theorem o_newarray_char  (hx : p.tables.exec = Jvm.exec) (hb : c.code = cc) (hl : m_lr ads z nL ls rls) (hs : m_vrs ads z st rst) (hr : m_rep D A ads s h H) (hS : va_S A s.heap H locs) (hd : decode cc pc = .ok (.newarray .char, 2)) (harr : (Cond.arrayClass .char).before args s = true) (hA : ∀ q, s.heap.size ≤ q → A q) (hc0 : c0 ≤ h.2.2.1) (hs0 : s0 ≤ h.2.2.2) (hRc : h'.2.2.1 - c0 ≤ R.cells) (hRs : h'.2.2.2 - s0 ≤ R.slots) (hm : mstep (.newarray .char) q pc ls st h = .ok (pc', ls', st', h')) (K : m_K p l e R s m args below meth c Q nL c0 s0 D A z ads pc' ls' st' h') : W p l e R s m args below meth c H locs (h.2.2.1 - c0) (h.2.2.2 - s0) Q (F0 m pc rls rst) := by
  unfold mstep at hm
  dsimp only at hm
  unfold m_mkarr at hm
  split at hm
  · next n r =>
    split at hm
    · next hc =>
      cases hm
      obtain ⟨N, rr, rfl, hN2, hs2⟩ := m_s0 hs
      obtain ⟨ws, tys, hK, hP, hD, hads, hlen, hall⟩ := hr
      have hNn : N.toNatClampNeg = n.toNat := m_tn hN2 hc.1
      have hRc : h.2.2.1 + 1 - c0 ≤ R.cells := hRc
      have hRs : h.2.2.2 + n.toNat - s0 ≤ R.slots := hRs
      refine va_newa hx hb (atype := .char) harr rfl hK hP hD hS hA (N' := N.toNatClampNeg) (a0 := (N.toNatClampNeg, .inl (fun _ => 0))) (fun _ => rfl) (by rw [Int32.lt_iff_toInt_lt, hN2, m_z32]; omega) rfl (by rw [hNn]; show n.toNat * 2 ≤ _; omega) (by omega) (by omega) hd (fun qa cA H1 hK1 hP1 hD1 hS1 => ?_)
      obtain ⟨hr1, had1⟩ := m_push (F := (m_new 102 n.toNat 0 h).1) (kd := (102, n.toNat)) (c9 := h.2.2.1 + 1) (s9 := h.2.2.2 + n.toNat) hads hlen hall hK1 hP1 hD1 (fun k hk => by
        funext j
        show (if k = h.2.1.length then _ else _) = _
        rw [if_neg (by omega)]) (by
        rw [← hNn]
        have hz : (m_new 102 N.toNatClampNeg 0 h).1 h.2.1.length = fun _ => 0 := by
          funext j
          show (if h.2.1.length = h.2.1.length then _ else _) = _
          rw [if_pos rfl]
        rw [hz]
        exact m_mk102 (by show (N.toNatClampNeg) < 100000; rw [m_tn hN2 hc.1]; omega) rfl ⟨⟨cA, _, tys.length, rfl, (by simp; rfl), fun i hi => rfl⟩, fun i hi => by decide⟩)
      refine m_kc (a := h.2.2.1 + 1 - c0) (b := h.2.2.2 + n.toNat - s0) (by omega) (by omega) ?_
      refine K [qa] rls (.ref qa :: rr) H1 locs (m_lr_up _ hl) ⟨⟨by omega, qa, ?_, rfl⟩, m_vrs_up _ hs2⟩ hr1 hS1
      rw [Int.toNat_natCast]
      exact had1
    · cases hm
  · cases hm

theorem o_newarray_boolean  (hx : p.tables.exec = Jvm.exec) (hb : c.code = cc) (hl : m_lr ads z nL ls rls) (hs : m_vrs ads z st rst) (hr : m_rep D A ads s h H) (hS : va_S A s.heap H locs) (hd : decode cc pc = .ok (.newarray .boolean, 2)) (harr : (Cond.arrayClass .boolean).before args s = true) (hA : ∀ q, s.heap.size ≤ q → A q) (hc0 : c0 ≤ h.2.2.1) (hs0 : s0 ≤ h.2.2.2) (hRc : h'.2.2.1 - c0 ≤ R.cells) (hRs : h'.2.2.2 - s0 ≤ R.slots) (hm : mstep (.newarray .boolean) q pc ls st h = .ok (pc', ls', st', h')) (K : m_K p l e R s m args below meth c Q nL c0 s0 D A z ads pc' ls' st' h') : W p l e R s m args below meth c H locs (h.2.2.1 - c0) (h.2.2.2 - s0) Q (F0 m pc rls rst) := by
  unfold mstep at hm
  dsimp only at hm
  unfold m_mkarr at hm
  split at hm
  · next n r =>
    split at hm
    · next hc =>
      cases hm
      obtain ⟨N, rr, rfl, hN2, hs2⟩ := m_s0 hs
      obtain ⟨ws, tys, hK, hP, hD, hads, hlen, hall⟩ := hr
      have hNn : N.toNatClampNeg = n.toNat := m_tn hN2 hc.1
      have hRc : h.2.2.1 + 1 - c0 ≤ R.cells := hRc
      have hRs : h.2.2.2 + n.toNat - s0 ≤ R.slots := hRs
      refine va_newa hx hb (atype := .boolean) harr rfl hK hP hD hS hA (N' := N.toNatClampNeg) (a0 := (N.toNatClampNeg, .inl (fun _ => 0))) (fun _ => rfl) (by rw [Int32.lt_iff_toInt_lt, hN2, m_z32]; omega) rfl (by rw [hNn]; show n.toNat * 1 ≤ _; omega) (by omega) (by omega) hd (fun qa cA H1 hK1 hP1 hD1 hS1 => ?_)
      obtain ⟨hr1, had1⟩ := m_push (F := (m_new 103 n.toNat 0 h).1) (kd := (103, n.toNat)) (c9 := h.2.2.1 + 1) (s9 := h.2.2.2 + n.toNat) hads hlen hall hK1 hP1 hD1 (fun k hk => by
        funext j
        show (if k = h.2.1.length then _ else _) = _
        rw [if_neg (by omega)]) (by
        rw [← hNn]
        have hz : (m_new 103 N.toNatClampNeg 0 h).1 h.2.1.length = fun _ => 0 := by
          funext j
          show (if h.2.1.length = h.2.1.length then _ else _) = _
          rw [if_pos rfl]
        rw [hz]
        exact m_mk103 (by show (N.toNatClampNeg) < 100000; rw [m_tn hN2 hc.1]; omega) rfl ⟨cA, _, tys.length, rfl, (by simp; rfl), fun i hi => rfl⟩)
      refine m_kc (a := h.2.2.1 + 1 - c0) (b := h.2.2.2 + n.toNat - s0) (by omega) (by omega) ?_
      refine K [qa] rls (.ref qa :: rr) H1 locs (m_lr_up _ hl) ⟨⟨by omega, qa, ?_, rfl⟩, m_vrs_up _ hs2⟩ hr1 hS1
      rw [Int.toNat_natCast]
      exact had1
    · cases hm
  · cases hm

theorem o_anewarray {idx : Nat} {r9 : vw_C} (hown : s.vm.findClass own = some m.cls) (hx : p.tables.exec = Jvm.exec) (hb : c.code = cc) (hl : m_lr ads z nL ls rls) (hs : m_vrs ads z st rst) (hr : m_rep D A ads s h H) (hS : va_S A s.heap H locs) (hd : decode cc pc = .ok (.anewarray idx, 3)) (hcl : m_cl[q.1]? = some r9) (hlink : (Cond.classLink own idx r9.1).before args s = true) (hover : va_AO r9.1 s) (hA : ∀ q, s.heap.size ≤ q → A q) (hc0 : c0 ≤ h.2.2.1) (hs0 : s0 ≤ h.2.2.2) (hRc : h'.2.2.1 - c0 ≤ R.cells) (hRs : h'.2.2.2 - s0 ≤ R.slots) (hm : mstep (.anewarray idx) q pc ls st h = .ok (pc', ls', st', h')) (K : m_K p l e R s m args below meth c Q nL c0 s0 D A z ads pc' ls' st' h') : W p l e R s m args below meth c H locs (h.2.2.1 - c0) (h.2.2.2 - s0) Q (F0 m pc rls rst) := by
  unfold mstep at hm
  dsimp only at hm
  have hlt : q.1 < 13 := Nat.lt_of_lt_of_le (List.getElem?_eq_some_iff.mp hcl).1 (show m_cl.length ≤ 13 by decide)
  rw [if_pos (by omega)] at hm
  unfold m_mkarr at hm
  split at hm
  · next n r =>
    split at hm
    · next hc =>
      cases hm
      obtain ⟨N, rr, rfl, hN2, hs2⟩ := m_s0 hs
      obtain ⟨ws, tys, hK, hP, hD, hads, hlen, hall⟩ := hr
      have hNn : N.toNatClampNeg = n.toNat := m_tn hN2 hc.1
      have hRc : h.2.2.1 + 1 - c0 ≤ R.cells := hRc
      have hRs : h.2.2.2 + n.toNat - s0 ≤ R.slots := hRs
      refine va_newq hx hb hown hlink hover hK hP hD hS hA (N' := N.toNatClampNeg) (by rw [Int32.lt_iff_toInt_lt, hN2, m_z32]; omega) rfl (by rw [hNn]; omega) (by omega) (by omega) hd (fun qa cA H1 hK1 hP1 hD1 hS1 => ?_)
      obtain ⟨hr1, had1⟩ := m_push (F := (m_new (110 + q.1) n.toNat (-1) h).1) (kd := (110 + q.1, n.toNat)) (c9 := h.2.2.1 + 1) (s9 := h.2.2.2 + n.toNat) hads hlen hall hK1 hP1 hD1 (fun k hk => by
        funext j
        show (if k = h.2.1.length then _ else _) = _
        rw [if_neg (by omega)]) (by
        rw [← hNn]
        have hz : (m_new (110 + q.1) N.toNatClampNeg (-1) h).1 h.2.1.length = fun _ => -1 := by
          funext j
          show (if h.2.1.length = h.2.1.length then _ else _) = _
          rw [if_pos rfl]
        rw [hz]
        refine m_mk110 (by show (N.toNatClampNeg) < 100000; omega) (by show 110 ≤ 110 + q.1; omega) (by show 110 + q.1 < 150; omega) ⟨r9, cA, _, tys.length, ?_, rfl, by simp, fun i hi => Or.inl ⟨rfl, rfl⟩⟩
        show m_cl[110 + q.1 - 110]? = some r9
        rw [Nat.add_sub_cancel_left]
        exact hcl)
      refine m_kc (a := h.2.2.1 + 1 - c0) (b := h.2.2.2 + n.toNat - s0) (by omega) (by omega) ?_
      refine K [qa] rls (.ref qa :: rr) H1 locs (m_lr_up _ hl) ⟨⟨by omega, qa, ?_, rfl⟩, m_vrs_up _ hs2⟩ hr1 hS1
      rw [Int.toNat_natCast]
      exact had1
    · cases hm
  · cases hm

theorem o_new {idx : Nat} {r9 : vw_C} (hown : s.vm.findClass own = some m.cls) (hx : p.tables.exec = Jvm.exec) (hb : c.code = cc) (hl : m_lr ads z nL ls rls) (hs : m_vrs ads z st rst) (hr : m_rep D A ads s h H) (hS : va_S A s.heap H locs) (hd : decode cc pc = .ok (.new idx, 3)) (hcl : m_cl[q.1]? = some r9) (hN : r9.2.2 = q.2.1) (hNl : q.2.1 < 100000) (hok : m_cok q.1 r9) (hw : ∀ w ∈ u_ws r9.1 r9.2.1 r9.2.2, w.before args s = true) (hlink : (Cond.classLink own idx r9.1).before args s = true) (hinst : (Cond.instantiable r9.1 r9.2.2).before args s = true) (hini : (Cond.initialized r9.1).before args s = true) (hA : ∀ q, s.heap.size ≤ q → A q) (hc0 : c0 ≤ h.2.2.1) (hs0 : s0 ≤ h.2.2.2) (hRc : h'.2.2.1 - c0 ≤ R.cells) (hRs : h'.2.2.2 - s0 ≤ R.slots) (hm : mstep (.new idx) q pc ls st h = .ok (pc', ls', st', h')) (K : m_K p l e R s m args below meth c Q nL c0 s0 D A z ads pc' ls' st' h') : W p l e R s m args below meth c H locs (h.2.2.1 - c0) (h.2.2.2 - s0) Q (F0 m pc rls rst) := by
  unfold mstep at hm
  dsimp only at hm
  have hlt : q.1 < 13 := Nat.lt_of_lt_of_le (List.getElem?_eq_some_iff.mp hcl).1 (show m_cl.length ≤ 13 by decide)
  rw [if_pos (by omega)] at hm
  cases hm
  obtain ⟨ws, tys, hK, hP, hD, hads, hlen, hall⟩ := hr
  obtain ⟨-, ⟨ty0, hty0, htyc⟩, hnm, -⟩ := hok
  have hRc : h.2.2.1 + 1 - c0 ≤ R.cells := hRc
  have hRs : h.2.2.2 + q.2.1 - s0 ≤ R.slots := hRs
  have hfs : ∀ j, j < r9.2.2 → ((List.range r9.2.2).map (fun i => defaultValue (ty0 i)))[j]? = some (defaultValue (ty0 j)) := fun j hj => by
    rw [List.getElem?_map, List.getElem?_range hj]
    rfl
  refine va_new (C := r9.1) (T := r9.2.1) (N := r9.2.2) (fs := (List.range r9.2.2).map (fun i => defaultValue (ty0 i))) hx hb hw (fun _ h => h) ty0 hty0 hown hlink hinst hini hK hP hD hS hA hcl (fun j hj => by
    show _ = List.getD _ _ _
    rw [List.getD_eq_getElem?_getD, hfs j hj]
    rfl) (by omega) (by omega) hd (fun qa H1 hP1 hD1 hS1 => ?_)
  have hK1 : va_K D m_cl (tys ++ []) s := by rw [List.append_nil]; exact hK
  obtain ⟨hr1, had1⟩ := m_push (F := (m_newo q.1 q.2.1 h).1) (kd := (q.1, q.2.1)) (c9 := h.2.2.1 + 1) (s9 := h.2.2.2 + q.2.1) hads hlen hall hK1 hP1 hD1 (fun k hk => by
    funext j
    show (if k = h.2.1.length then _ else _) = _
    rw [if_neg (by omega)]) (by
    have hz : (m_newo q.1 q.2.1 h).1 h.2.1.length = fun j => m_dfl (m_fty q.1 j) := by
      funext j
      show (if h.2.1.length = h.2.1.length then _ else _) = _
      rw [if_pos rfl]
    rw [hz]
    refine ⟨hNl, ?_⟩
    rw [if_pos hlt]
    refine ⟨_, r9, rfl, hcl, hN, by rw [List.length_map, List.length_range]; exact hN, fun i hi => ⟨_, hfs i (by omega), ?_⟩⟩
    have h5 := m_fty5 q.1 hlt i (by rw [List.getD_eq_getElem?_getD, List.getElem?_map, hcl]; show i < r9.2.2; omega)
    have h6 := htyc i (by omega)
    show m_sr _ (m_fty q.1 i) (m_dfl (m_fty q.1 i)) (defaultValue (ty0 i))
    rw [← h6] at h5 ⊢
    clear h6
    generalize ty0 i = t9 at h5 ⊢
    cases t9 with
    | int => exact ⟨0, rfl, rfl⟩
    | long => exact ⟨0, rfl, rfl⟩
    | boolean => exact ⟨0, rfl, rfl⟩
    | char => exact ⟨0, rfl, rfl⟩
    | object n => exact Or.inl ⟨rfl, rfl⟩
    | array n => exact Or.inl ⟨rfl, rfl⟩
    | _ => simp [m_tyc] at h5)
  refine m_kc (a := h.2.2.1 + 1 - c0) (b := h.2.2.2 + q.2.1 - s0) (by omega) (by omega) ?_
  refine K [qa] rls (.ref qa :: rst) H1 locs (m_lr_up _ hl) ⟨⟨by omega, qa, ?_, rfl⟩, m_vrs_up _ hs⟩ hr1 hS1
  rw [Int.toNat_natCast]
  exact had1

theorem o_getstatic {idx : Nat} (hown : s.vm.findClass own = some m.cls) (hx : p.tables.exec = Jvm.exec) (hb : c.code = cc) (hl : m_lr ads z nL ls rls) (hs : m_vrs ads z st rst) (hr : m_rep D A ads s h H) (hS : va_S A s.heap H locs) (hd : decode cc pc = .ok (.getstatic idx, 3)) (hf : (q.1 = 0 ∧ q.2.1 = 2 ∧ (Cond.fieldLink own idx "Syntaxspan" "WORD_STARTS" "[I").before args s = true) ∨ (q.1 = 0 ∧ q.2.1 = 3 ∧ (Cond.fieldLink own idx "Syntaxspan" "SIGNS" "[C").before args s = true) ∨ (q.1 = 0 ∧ q.2.1 = 4 ∧ (Cond.fieldLink own idx "Syntaxspan" "WORDS" "[C").before args s = true) ∨ (q.1 = 1 ∧ (Cond.fieldLink own idx "java/lang/String" "COMPACT_STRINGS" "Z").before args s = true) ∨ (q.1 = 2 ∧ (Cond.fieldLink own idx "jdk/internal/util/Preconditions" "SIOOBE_FORMATTER" "Ljava/util/function/BiFunction;").before args s = true) ∨ 3 ≤ q.1) (hold : m_old z A s s.heap) (hm : mstep (.getstatic idx) q pc ls st h = .ok (pc', ls', st', h')) (K : m_K p l e R s m args below meth c Q nL c0 s0 D A z ads pc' ls' st' h') : W p l e R s m args below meth c H locs (h.2.2.1 - c0) (h.2.2.2 - s0) Q (F0 m pc rls rst) := by
  unfold mstep at hm
  dsimp only at hm
  obtain ⟨-, -, hZc, hZs, -, -, hZ2, -, hZ3, -, hZ4, -⟩ := hold
  rcases hf with ⟨e1, e2, hk⟩ | ⟨e1, e2, hk⟩ | ⟨e1, e2, hk⟩ | ⟨e1, hk⟩ | ⟨e1, hk⟩ | e1
  · rw [if_pos e1] at hm
    cases hm
    rw [e2] at K
    exact va_gets hx hb hZ2 hS hown hk (fun _ h9 => h9) hd (m_k0 K hl ⟨⟨by decide, by decide, rfl⟩, hs⟩ hr hS)
  · rw [if_pos e1] at hm
    cases hm
    rw [e2] at K
    exact va_gets hx hb hZ3 hS hown hk (fun _ h9 => h9) hd (m_k0 K hl ⟨⟨by decide, by decide, rfl⟩, hs⟩ hr hS)
  · rw [if_pos e1] at hm
    cases hm
    rw [e2] at K
    exact va_gets hx hb hZ4 hS hown hk (fun _ h9 => h9) hd (m_k0 K hl ⟨⟨by decide, by decide, rfl⟩, hs⟩ hr hS)
  · rw [if_neg (by omega), if_pos e1] at hm
    cases hm
    exact va_gets hx hb hZc hS hown hk (fun _ h9 => h9) hd (m_k0 K hl ⟨m_i0 rfl, hs⟩ hr hS)
  · rw [if_neg (by omega), if_neg (by omega), if_pos e1] at hm
    cases hm
    rcases hZs with hZ | ⟨t, hZ⟩
    · exact va_gets hx hb hZ hS hown hk (fun _ h9 => h9) hd (m_k0 K hl ⟨Or.inl rfl, hs⟩ hr hS)
    · exact va_gets hx hb hZ hS hown hk (fun _ h9 => h9) hd (m_k0 K hl ⟨Or.inr ⟨t, rfl⟩, hs⟩ hr hS)
  · rw [if_neg (by omega), if_neg (by omega), if_neg (by omega)] at hm
    cases hm

theorem o_ldc {idx : Nat} (hown : s.vm.findClass own = some m.cls) (hx : p.tables.exec = Jvm.exec) (hb : c.code = cc) (hl : m_lr ads z nL ls rls) (hs : m_vrs ads z st rst) (hr : m_rep D A ads s h H) (hS : va_S A s.heap H locs) (hd : decode cc pc = .ok (.ldc idx, 2)) (hf : (q.1 = 1 ∧ q.2.1 < 2147483648 ∧ (Cond.constant own idx (Int32.ofInt (q.2.1 : Int))).before args s = true) ∨ (q.1 = 2 ∧ q.2.1 < 29 ∧ ∃ tx : String, m_strs[q.2.1]? = some (own, idx, tx)) ∨ (q.1 = 3 ∧ q.2.1 ≤ 2147483648 ∧ (Cond.constant own idx (Int32.ofInt (-(q.2.1 : Int)))).before args s = true) ∨ 4 ≤ q.1 ∨ q.1 = 0) (hold : m_old z A s s.heap) (hm : mstep (.ldc idx) q pc ls st h = .ok (pc', ls', st', h')) (K : m_K p l e R s m args below meth c Q nL c0 s0 D A z ads pc' ls' st' h') : W p l e R s m args below meth c H locs (h.2.2.1 - c0) (h.2.2.2 - s0) Q (F0 m pc rls rst) := by
  unfold mstep at hm
  dsimp only at hm
  obtain ⟨-, hR, -⟩ := hold
  rcases hf with ⟨e1, e2, hk⟩ | ⟨e1, e2, tx, hk⟩ | ⟨e1, e2, hk⟩ | e1 | e1
  · rw [if_neg (by omega), if_pos e1] at hm
    cases hm
    exact lv_ldc hx hb hown hk hd (m_k0 K hl ⟨m_i0 (m_ofInt (by omega) (by omega)), hs⟩ hr hS)
  · rw [if_neg (by omega), if_neg (by omega), if_pos e1] at hm
    cases hm
    refine va_ldcS hx hb hown (hR _ _ hk) hd (m_k0 K hl ⟨⟨by omega, by omega, ?_⟩, hs⟩ hr hS)
    show Value.ref (z.2.1 q.2.1) = Value.ref (z.2.1 ((q.2.1 : Int)).toNat)
    rw [Int.toNat_natCast]
  · rw [if_pos e1] at hm
    cases hm
    exact lv_ldc hx hb hown hk hd (m_k0 K hl ⟨m_i0 (m_ofInt (by omega) (by omega)), hs⟩ hr hS)
  · rw [if_neg (by omega), if_neg (by omega), if_neg (by omega)] at hm
    cases hm
  · rw [if_neg (by omega), if_neg (by omega), if_neg (by omega)] at hm
    cases hm

theorem o_ldc_w {idx : Nat} (hown : s.vm.findClass own = some m.cls) (hx : p.tables.exec = Jvm.exec) (hb : c.code = cc) (hl : m_lr ads z nL ls rls) (hs : m_vrs ads z st rst) (hr : m_rep D A ads s h H) (hS : va_S A s.heap H locs) (hd : decode cc pc = .ok (.ldc_w idx, 3)) (hf : (q.1 = 1 ∧ q.2.1 < 2147483648 ∧ (Cond.constant own idx (Int32.ofInt (q.2.1 : Int))).before args s = true) ∨ (q.1 = 2 ∧ q.2.1 < 29 ∧ ∃ tx : String, m_strs[q.2.1]? = some (own, idx, tx)) ∨ (q.1 = 3 ∧ q.2.1 ≤ 2147483648 ∧ (Cond.constant own idx (Int32.ofInt (-(q.2.1 : Int)))).before args s = true) ∨ 4 ≤ q.1 ∨ q.1 = 0) (hold : m_old z A s s.heap) (hm : mstep (.ldc_w idx) q pc ls st h = .ok (pc', ls', st', h')) (K : m_K p l e R s m args below meth c Q nL c0 s0 D A z ads pc' ls' st' h') : W p l e R s m args below meth c H locs (h.2.2.1 - c0) (h.2.2.2 - s0) Q (F0 m pc rls rst) := by
  unfold mstep at hm
  dsimp only at hm
  obtain ⟨-, hR, -⟩ := hold
  rcases hf with ⟨e1, e2, hk⟩ | ⟨e1, e2, tx, hk⟩ | ⟨e1, e2, hk⟩ | e1 | e1
  · rw [if_neg (by omega), if_pos e1] at hm
    cases hm
    exact lv_ldcw hx hb hown hk hd (m_k0 K hl ⟨m_i0 (m_ofInt (by omega) (by omega)), hs⟩ hr hS)
  · rw [if_neg (by omega), if_neg (by omega), if_pos e1] at hm
    cases hm
    refine lv_ldcwS hx hb hown (hR _ _ hk) hd (m_k0 K hl ⟨⟨by omega, by omega, ?_⟩, hs⟩ hr hS)
    show Value.ref (z.2.1 q.2.1) = Value.ref (z.2.1 ((q.2.1 : Int)).toNat)
    rw [Int.toNat_natCast]
  · rw [if_pos e1] at hm
    cases hm
    exact lv_ldcw hx hb hown hk hd (m_k0 K hl ⟨m_i0 (m_ofInt (by omega) (by omega)), hs⟩ hr hS)
  · rw [if_neg (by omega), if_neg (by omega), if_neg (by omega)] at hm
    cases hm
  · rw [if_neg (by omega), if_neg (by omega), if_neg (by omega)] at hm
    cases hm

theorem o_ldc2 {idx : Nat} (hown : s.vm.findClass own = some m.cls) (hx : p.tables.exec = Jvm.exec) (hb : c.code = cc) (hl : m_lr ads z nL ls rls) (hs : m_vrs ads z st rst) (hr : m_rep D A ads s h H) (hS : va_S A s.heap H locs) (hd : decode cc pc = .ok (.ldc2_w idx, 3)) (hf : (q.1 = 1 ∧ q.2.1 < 2147483648 ∧ (Cond.constantLong own idx (Int64.ofInt (q.2.1 : Int))).before args s = true) ∨ (q.1 = 3 ∧ q.2.1 ≤ 2147483648 ∧ (Cond.constantLong own idx (Int64.ofInt (-(q.2.1 : Int)))).before args s = true) ∨ (q.1 ≠ 1 ∧ q.1 ≠ 3)) (hm : mstep (.ldc2_w idx) q pc ls st h = .ok (pc', ls', st', h')) (K : m_K p l e R s m args below meth c Q nL c0 s0 D A z ads pc' ls' st' h') : W p l e R s m args below meth c H locs (h.2.2.1 - c0) (h.2.2.2 - s0) Q (F0 m pc rls rst) := by
  unfold mstep at hm
  dsimp only at hm
  rcases hf with ⟨e1, e2, hk⟩ | ⟨e1, e2, hk⟩ | ⟨e0, e1⟩
  · rw [if_neg (by omega), if_pos e1] at hm
    cases hm
    refine lv_ldc2 hx hb hown hk hd (m_k0 K hl ⟨m_i1 ?_, hs⟩ hr hS)
    rw [Int64.toInt_ofInt, show Int64.size = 18446744073709551616 from rfl, w64_bmod]
    exact w64_of (by omega) (by omega)
  · rw [if_pos e1] at hm
    cases hm
    refine lv_ldc2 hx hb hown hk hd (m_k0 K hl ⟨m_i1 ?_, hs⟩ hr hS)
    rw [Int64.toInt_ofInt, show Int64.size = 18446744073709551616 from rfl, w64_bmod]
    exact w64_of (by omega) (by omega)
  · rw [if_neg e1, if_neg e0] at hm
    cases hm

theorem o_objInit {idx : Nat} (hown : s.vm.findClass own = some m.cls) (hx : p.tables.exec = Jvm.exec) (hb : c.code = cc) (hl : m_lr ads z nL ls rls) (hs : m_vrs ads z st rst) (hr : m_rep D A ads s h H) (hS : va_S A s.heap H locs) (hd : decode cc pc = .ok (.invokespecial idx, 3)) (hml : c.maxLocals = nL) (hq : q.2.2.2 = 9)
    (hlink : (Cond.methodLink own idx Lib.objectInit).before args s = true) (hinst : (Cond.instanceMethod Lib.objectInit).before args s = true) (hcode : (Cond.code Lib.objectInit ⟨#[0xb1]⟩ 1 none).before args s = true) (hRf : 1 ≤ R.frames) (hRl : 20 ≤ R.locals)
    (hm : mstep (.invokespecial idx) q pc ls st h = .ok (pc', ls', st', h')) (K : m_K p l e R s m args below meth c Q nL c0 s0 D A z ads pc' ls' st' h') : W p l e R s m args below meth c H locs (h.2.2.1 - c0) (h.2.2.2 - s0) Q (F0 m pc rls rst) := by
  unfold mstep at hm
  dsimp only at hm
  rw [if_pos hq] at hm
  split at hm
  · next x r =>
    split at hm
    · next hc =>
      cases hm
      obtain ⟨ad, rr, rfl, h0, had, hs2⟩ := m_s2 hs
      refine W.objInit hx hb hown hlink hinst hcode (g := F0 m pc rls (.ref ad :: rr)) rfl (by rw [hml]; exact hl.2.1) rfl hd hRf ?_ ?_
      · show 2 * 0 + _ + 12 ≤ _
        rw [m_cats_of hs2]
        omega
      · exact W.eq (g2 := F0 m (pc + 3) rls rr) rfl (m_k0 K hl hs2 hr hS)
    · cases hm
  · cases hm
theorem o_copy {idx : Nat} (hown : s.vm.findClass own = some m.cls) (hx : p.tables.exec = Jvm.exec) (hb : c.code = cc) (hl : m_lr ads z nL ls rls) (hs : m_vrs ads z st rst) (hr : m_rep D A ads s h H) (hS : va_S A s.heap H locs) (hd : decode cc pc = .ok (.invokestatic idx, 3)) (hml : c.maxLocals = nL) (hq : q.2.2.2 = 6)
    (hlink : (Cond.methodLink own idx arraycopyName).before args s = true) (hnat : (Cond.native arraycopyName).before args s = true) (hstat : (Cond.static arraycopyName).before args s = true) (hini : (Cond.initialized "java/lang/System").before args s = true) (hRf : 1 ≤ R.frames) (hRl : 100 ≤ R.locals)
    (hm : mstep (.invokestatic idx) q pc ls st h = .ok (pc', ls', st', h')) (K : m_K p l e R s m args below meth c Q nL c0 s0 D A z ads pc' ls' st' h') : W p l e R s m args below meth c H locs (h.2.2.1 - c0) (h.2.2.2 - s0) Q (F0 m pc rls rst) := by
  unfold mstep at hm
  dsimp only at hm
  rw [if_pos hq] at hm
  unfold m_copy at hm
  split at hm
  · next n dp b sp a r =>
    split at hm
    · next hc =>
      cases hm
      obtain ⟨hk, hk2, hn0, hd0, hs0, hsn, hdn, hcat⟩ := hc
      obtain ⟨N, r0, rfl, hN, hs1⟩ := m_s0 hs
      obtain ⟨DP, r1, rfl, hDP, hs2⟩ := m_s0 hs1
      obtain ⟨bd, r2, rfl, hb0, hbd, hs3⟩ := m_s2 hs2
      obtain ⟨SP, r3, rfl, hSP, hs4⟩ := m_s0 hs3
      obtain ⟨ad, rr, rfl, ha0, had, hs5⟩ := m_s2 hs4
      obtain ⟨ws, tys, x9, hC⟩ := m_at hr hbd (show (m_kind h b).1 ≠ 999 by omega)
      have hC0 := hC
      obtain ⟨hK, hP, hD, hads, hlen, hall, hw1, hcr, hkd⟩ := hC
      have hka : (h.2.1)[a.toNat]? = some (m_kind h a) := by
        have hne : (m_kind h a).1 ≠ 999 := by omega
        unfold m_kind at hne ⊢
        rw [if_pos ha0] at hne ⊢
        cases hg : (h.2.1)[a.toNat]? with
        | none => rw [hg] at hne; exact absurd rfl hne
        | some kd => rfl
      obtain ⟨a2, y, hwa, hca⟩ := hall _ _ hka
      have ea : a2 = ad := by
        have : (ws.map (fun q => q.1))[a.toNat]? = some a2 := by rw [List.getElem?_map, hwa]; rfl
        rw [hads, had] at this
        exact (Option.some.inj this).symm
      subst ea
      have tN := m_tn hN hn0
      have tD := m_tn hDP hd0
      have tS := m_tn hSP hs0
      have neg : ∀ {X : Int32} {i : Int}, X.toInt = i → 0 ≤ i → ¬ X < 0 := fun h1 h2 => by rw [Int32.lt_iff_toInt_lt, h1, m_z32]; omega
      have hwords : (rr.map fun v => v.category).sum + (nativeFrameWords "java/lang/System" "arraycopy" 5 + 11) ≤ R.locals := by
        rw [m_cats_of hs5]
        have : nativeFrameWords "java/lang/System" "arraycopy" 5 + 11 ≤ 92 := by decide +kernel
        omega
      have hcpv : ∀ (f g : Nat → Int32), (∀ i, i < (m_kind h a).2 → (f i).toInt = h.1 a.toNat i) → (∀ i, i < (m_kind h b).2 → (g i).toInt = h.1 b.toNat i) → ∀ i, i < (m_kind h b).2 → (va_cpy f g sp.toNat dp.toNat n.toNat i).toInt = m_cpy h.1 a.toNat sp.toNat b.toNat dp.toNat n.toNat b.toNat i := by
        intro f g hf hg i hi
        unfold va_cpy m_cpy
        by_cases e9 : dp.toNat ≤ i ∧ i < dp.toNat + n.toNat
        · rw [if_pos e9, if_pos ⟨rfl, e9⟩]
          exact hf _ (by omega)
        · rw [if_neg e9, if_neg (fun z9 => e9 z9.2)]
          exact hg i hi
      have hoth : ∀ j, j ≠ b.toNat → m_cpy h.1 a.toNat sp.toNat b.toNat dp.toNat n.toNat j = h.1 j := fun j hj => by
        funext i
        unfold m_cpy
        rw [if_neg (fun z9 => hj z9.1)]
      rcases hk with hk | hk
      · obtain ⟨cA, f, t0, rfl, ht, hf⟩ := m_cr100 hca hk
        obtain ⟨cB, g, t1, rfl, ht1, hg⟩ := m_cr100 hcr (by omega)
        refine va_copyi hx hb (by rw [hml]; exact hl.2.1.symm) hown hlink hnat hstat hini hK hP hD hS a.toNat b.toNat t0 t1 hwa hw1 ht ht1 rfl (neg hSP hs0) (neg hDP hd0) (neg hN hn0) (by omega) (by omega) (fun _ _ => rfl) hRf hwords hd (fun H1 locs1 hP1 hD1 hS1 => ?_)
        rw [tN, tD, tS] at hP1 hD1
        refine m_k0 (h := (m_cpy h.1 a.toNat sp.toNat b.toNat dp.toNat n.toNat, h.2)) K hl hs5 (m_setrep hC0 hP1 hD1 ?_ hoth) hS1
        exact m_mk100 hcr.1 (by omega) ⟨cB, _, t1, rfl, ht1, hcpv f g hf hg⟩
      · obtain ⟨⟨cA, f, t0, rfl, ht, hf⟩, hca2⟩ := m_cr102 hca hk
        obtain ⟨⟨cB, g, t1, rfl, ht1, hg⟩, hcb2⟩ := m_cr102 hcr (by omega)
        refine va_copyi hx hb (by rw [hml]; exact hl.2.1.symm) hown hlink hnat hstat hini hK hP hD hS a.toNat b.toNat t0 t1 hwa hw1 ht ht1 rfl (neg hSP hs0) (neg hDP hd0) (neg hN hn0) (by omega) (by omega) (fun i hi => ?_) hRf hwords hd (fun H1 locs1 hP1 hD1 hS1 => ?_)
        · have h9 := hca2 (SP.toNatClampNeg + i) (by omega)
          have h8 := hf (SP.toNatClampNeg + i) (by omega)
          show (decide (0 ≤ f _) && decide (f _ ≤ 65535)) = true
          rw [Bool.and_eq_true, decide_eq_true_iff, decide_eq_true_iff, Int32.le_iff_toInt_le, Int32.le_iff_toInt_le, h8]
          exact ⟨h9.1, by rw [show (65535 : Int32).toInt = 65535 from rfl]; omega⟩
        · rw [tN, tD, tS] at hP1 hD1
          refine m_k0 (h := (m_cpy h.1 a.toNat sp.toNat b.toNat dp.toNat n.toNat, h.2)) K hl hs5 (m_setrep hC0 hP1 hD1 ?_ hoth) hS1
          refine m_mk102 hcr.1 (by omega) ⟨⟨cB, _, t1, rfl, ht1, hcpv f g hf hg⟩, fun i hi => ?_⟩
          unfold m_cpy
          split
          · exact hca2 _ (by omega)
          · exact hcb2 i hi
    · cases hm
  · cases hm
end M10
