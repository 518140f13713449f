/-! THE SMALL MACHINE'S INSTRUCTIONS OVER THE MACHINE: cells -/
section M8
variable {p : Program} {l : Launch} {e : Jvm.Env} {R : Room} {s : State} {m : MethodId} {args : Array Value} {below : List Frame} {meth : Method} {c : Code} {Q : State → Prop} {cc : ByteArray} {own : String} {nL c0 s0 : Nat} {D : va_G} {A : Nat → Prop} {z : m_Z} {ads : List Nat} {q : LK} {pc pc' : Nat} {ls ls' : ML} {st st' : List MV} {h h' : MH} {rls : Array Slot} {rst : List Value} {H : Heap} {locs : List Loc}
/-- what a world says of the cell of a number -/
def m_cell (D : va_G) (A : Nat → Prop) (ads : List Nat) (s : State) (h : MH) (H : Heap) (k ad : Nat) (kd : Nat × Nat) (ws : va_W) (tys : List (ClassId × FieldType)) (x : va_E) : Prop :=
  va_K D m_cl tys s ∧ va_P D m_cl ws H ∧ va_D A ws ∧ ws.map (fun q => q.1) = ads ∧ ws.length = h.2.1.length ∧
    (∀ (k : Nat) (kd : Nat × Nat), h.2.1[k]? = some kd → ∃ (a : Nat) (e : va_E), ws[k]? = some (a, e) ∧ m_cr ads tys kd (h.1 k) e) ∧ ws[k]? = some (ad, x) ∧ m_cr ads tys kd (h.1 k) x ∧ h.2.1[k]? = some kd
theorem m_at {a : Int} {ad : Nat} (hr : m_rep D A ads s h H) (had : ads[a.toNat]? = some ad) (hk : (m_kind h a).1 ≠ 999) : ∃ (ws : va_W) (tys : List (ClassId × FieldType)) (x : va_E), m_cell D A ads s h H a.toNat ad (m_kind h a) ws tys x := by
  obtain ⟨ws, tys, hK, hP, hD, hads, hlen, hall⟩ := hr
  unfold m_kind at hk
  split at hk
  · next h0 =>
    cases hg : (h.2.1)[a.toNat]? with
    | none => rw [hg] at hk; exact absurd rfl hk
    | some kd =>
      obtain ⟨a2, x, hw, hcr⟩ := hall _ _ hg
      have e1 : a2 = ad := by
        have : (ws.map (fun q => q.1))[a.toNat]? = some a2 := by rw [List.getElem?_map, hw]; rfl
        rw [hads, had] at this
        exact (Option.some.inj this).symm
      subst e1
      have e2 : m_kind h a = kd := by unfold m_kind; rw [if_pos h0, hg]; rfl
      rw [e2]
      exact ⟨ws, tys, x, hK, hP, hD, hads, hlen, hall, hw, hcr, hg⟩
  · exact absurd rfl hk
theorem m_setrep {k ad : Nat} {kd : Nat × Nat} {ws : va_W} {tys : List (ClassId × FieldType)} {x y : va_E} {H1 : Heap} {F : Nat → Nat → Int} (hc : m_cell D A ads s h H k ad kd ws tys x) (hP : va_P D m_cl (ws.set k (ad, y)) H1) (hD : va_D A (ws.set k (ad, y)))
    (hy : m_cr ads tys kd (F k) y) (ho : ∀ j, j ≠ k → F j = h.1 j) : m_rep D A ads s (F, h.2) H1 := by
  obtain ⟨hK, -, -, hads, hlen, hall, hw, -, hkd⟩ := hc
  refine ⟨ws.set k (ad, y), tys, hK, hP, hD, ?_, by rw [List.length_set]; exact hlen, fun j kj hj => ?_⟩
  · rw [← hads]
    apply List.ext_getElem?
    intro i
    rw [List.getElem?_map, List.getElem?_map, List.getElem?_set]
    split
    · next e =>
      subst e
      rw [if_pos (List.getElem?_eq_some_iff.mp hw).1, hw]
      rfl
    · rfl
  · by_cases e : j = k
    · subst e
      have : kj = kd := by
        have h1 : (h.2.1)[j]? = some kj := hj
        rw [hkd] at h1
        exact (Option.some.inj h1).symm
      subst this
      refine ⟨ad, y, ?_, hy⟩
      rw [List.getElem?_set_self (List.getElem?_eq_some_iff.mp hw).1]
    · obtain ⟨a2, x2, h1, h2⟩ := hall j kj hj
      refine ⟨a2, x2, ?_, ?_⟩
      · rw [List.getElem?_set_ne (fun z9 => e z9.symm)]
        exact h1
      · show m_cr ads tys kj (F j) x2
        rw [ho j e]
        exact h2
theorem m_up_ne {F : Nat → Nat → Int} {k i : Nat} {x : Int} {j : Nat} (hj : j ≠ k) : m_up F k i x j = F j := by
  funext b
  unfold m_up
  rw [if_neg (fun z9 => hj z9.1)]
theorem m_up_at {F : Nat → Nat → Int} {k i j : Nat} {x : Int} : m_up F k i x k j = if j = i then x else F k j := by
  unfold m_up
  by_cases e : j = i
  · rw [if_pos ⟨rfl, e⟩, if_pos e]
  · rw [if_neg (fun z9 => e z9.2), if_neg e]
theorem m_kfst {a : Int} {n : Nat} (hk : (m_kind h a).1 = n) (hn : n ≠ 999) : (m_kind h a).1 ≠ 999 := by rw [hk]; exact hn
theorem m_tn {X : Int32} {i : Int} (hX : X.toInt = i) (h0 : 0 ≤ i) : X.toNatClampNeg = i.toNat := by
  show X.toInt.toNat = _
  rw [hX]

theorem m_fitv {ty : Nat} {t : Nat} {x : Int} {X : Value} (h : m_fit ty (t, x) = true) (hX : m_vr ads z (t, x) X) : m_sr ads ty x X ∧ ((ty = 0 ∨ ty = 2 ∨ ty = 3) → t = 0) ∧ (ty = 2 → x = 0 ∨ x = 1) ∧ (ty = 3 → 0 ≤ x ∧ x < 65536) ∧ (ty = 1 → t = 1) ∧ (ty = 4 → t = 2) ∧ ty < 5 := by
  unfold m_fit at h
  split at h
  · obtain rfl : t = 0 := by simpa using h
    exact ⟨hX, by simp, by simp, by simp, by simp, by simp, by simp⟩
  · obtain rfl : t = 1 := by simpa using h
    exact ⟨hX, by simp, by simp, by simp, by simp, by simp, by simp⟩
  · simp at h
    obtain ⟨rfl, h2⟩ := h
    exact ⟨hX, by simp, fun _ => h2, by simp, by simp, by simp, by simp⟩
  · simp at h
    obtain ⟨rfl, h2⟩ := h
    exact ⟨hX, by simp, by simp, fun _ => h2, by simp, by simp, by simp⟩
  · obtain rfl : t = 2 := by simpa using h
    exact ⟨Or.inr hX, by simp, by simp, by simp, by simp, by simp, by simp⟩
  · cases h
theorem m_fits {ty : Nat} {t : Nat} {x : Int} {X : Value} {fty : FieldType} (hty : m_tyc fty = ty) (h : m_fit ty (t, x) = true) (hX : m_vr ads z (t, x) X) : narrow fty X = X ∧ fits fty X = true ∧ m_sr ads ty x X := by
  obtain ⟨hsr, h0, h2, h3, h1, h4, h5⟩ := m_fitv h hX
  subst hty
  refine ⟨?_, ?_, hsr⟩
  · cases fty with
    | int => obtain ⟨y, rfl, -⟩ := hsr; rfl
    | long => obtain ⟨y, rfl, -⟩ := hsr; rfl
    | boolean => obtain ⟨y, rfl, hy⟩ := hsr; exact m_nar_bool (by rw [hy]; exact h2 rfl)
    | char => obtain ⟨y, rfl, hy⟩ := hsr; have := h3 rfl; exact m_nar_char (by rw [hy]; exact this.1) (by rw [hy]; exact this.2)
    | object n => rfl
    | array n => rfl
    | _ => simp [m_tyc] at h5
  · cases fty with
    | int => obtain ⟨y, rfl, -⟩ := hsr; rfl
    | long => obtain ⟨y, rfl, -⟩ := hsr; rfl
    | boolean =>
      obtain ⟨y, rfl, hy⟩ := hsr
      have : y = 0 ∨ y = 1 := by
        rcases h2 rfl with e | e
        · exact Or.inl (Int32.toInt_inj.mp (by rw [hy, e]; rfl))
        · exact Or.inr (Int32.toInt_inj.mp (by rw [hy, e]; rfl))
      rcases this with rfl | rfl <;> rfl
    | char =>
      obtain ⟨y, rfl, hy⟩ := hsr
      have := h3 rfl
      show (decide (0 ≤ y) && decide (y ≤ 65535)) = true
      rw [Bool.and_eq_true, decide_eq_true_iff, decide_eq_true_iff, Int32.le_iff_toInt_le, Int32.le_iff_toInt_le, hy]
      exact ⟨this.1, by rw [show (65535 : Int32).toInt = 65535 from rfl]; omega⟩
    | object n =>
      rcases hsr with ⟨e, rfl⟩ | ⟨-, b, -, rfl⟩ <;> rfl
    | array n =>
      rcases hsr with ⟨e, rfl⟩ | ⟨-, b, -, rfl⟩ <;> rfl
    | _ => simp [m_tyc] at h5

theorem o_getfield {idx : Nat} (hown : s.vm.findClass own = some m.cls) (hx : p.tables.exec = Jvm.exec) (hb : c.code = cc) (hl : m_lr ads z nL ls rls) (hs : m_vrs ads z st rst) (hr : m_rep D A ads s h H) (hS : va_S A s.heap H locs) (hd : decode cc pc = .ok (.getfield idx, 3)) (hf : (∃ r : vw_C, m_cl[q.1]? = some r ∧ (∀ w ∈ u_ws r.1 r.2.1 r.2.2, w.before args s = true) ∧ q.2.1 < r.2.2 ∧ ((Cond.fieldLink own idx (r.2.1 q.2.1).1 (r.2.1 q.2.1).2.1 (r.2.1 q.2.1).2.2.1).before args s = true ∨ ∃ host : String, (Cond.fieldLinkNest own idx (r.2.1 q.2.1).1 (r.2.1 q.2.1).2.1 (r.2.1 q.2.1).2.2.1 host).before args s = true)) ∨ (q.1 = 100 ∧ ((q.2.1 = 0 ∧ (Cond.fieldLink own idx "java/lang/String" "value" "[B").before args s = true) ∨ (q.2.1 = 1 ∧ (Cond.fieldLink own idx "java/lang/String" "coder" "B").before args s = true)))) (hold : m_old z A s s.heap) (hm : mstep (.getfield idx) q pc ls st h = .ok (pc', ls', st', h')) (K : m_K p l e R s m args below meth c Q nL c0 s0 D A z ads pc' ls' st' h') : W p l e R s m args below meth c H locs (h.2.2.1 - c0) (h.2.2.2 - s0) Q (F0 m pc rls rst) := by
  unfold mstep at hm
  dsimp only at hm
  unfold m_get at hm
  split at hm
  · next a r =>
    obtain ⟨ad, rr, rfl, h0, had, hs2⟩ := m_s2 hs
    split at hm
    · next hc =>
      rcases hf with ⟨r, hcl, hw, hk, hlink⟩ | ⟨h100, hf⟩
      · have hlt : q.1 < 13 := Nat.lt_of_lt_of_le (List.getElem?_eq_some_iff.mp hcl).1 (show m_cl.length ≤ 13 by decide)
        obtain ⟨ws, tys, x, hC⟩ := m_at hr had (m_kfst hc.1 (by omega))
        obtain ⟨hK, hP, hD, hads, hlen, hall, hw1, hcr, hkd⟩ := hC
        have hcr2 := hcr.2
        rw [if_pos (by rw [hc.1]; exact hlt)] at hcr2
        obtain ⟨fs, q2, rfl, hq, hN, hfl, hfs⟩ := hcr2
        rw [hc.1] at hq hw1
        obtain ⟨v, hv, hsr⟩ := hfs q.2.1 hc.2
        rw [hc.1] at hsr
        have kk : W p l e R s m args below meth c H locs (h.2.2.1 - c0) (h.2.2.2 - s0) Q (F0 m (pc + 3) rls (v :: rr)) := by
          unfold m_of at hm
          unfold m_sr at hsr
          generalize m_fty q.1 q.2.1 = ty at hm hsr
          split at hm
          · cases hm
            obtain ⟨y, rfl, hy⟩ := hsr
            exact m_k0 K hl ⟨m_i0 hy, hs2⟩ hr hS
          · cases hm
            obtain ⟨y, rfl, hy⟩ := hsr
            exact m_k0 K hl ⟨m_i1 hy, hs2⟩ hr hS
          · cases hm
            obtain ⟨y, rfl, hy⟩ := hsr
            exact m_k0 K hl ⟨m_i0 hy, hs2⟩ hr hS
          · cases hm
            obtain ⟨y, rfl, hy⟩ := hsr
            exact m_k0 K hl ⟨m_i0 hy, hs2⟩ hr hS
          · split at hm
            · next h9 =>
              cases hm
              rcases hsr with ⟨e1, -⟩ | ⟨-, b, hb2, rfl⟩
              · omega
              · exact m_k0 K hl ⟨⟨h9, b, hb2, rfl⟩, hs2⟩ hr hS
            · cases hm
          · cases hm
        rcases hlink with hlink | ⟨host, hlink⟩
        · exact va_get (C := r.1) (T := r.2.1) (N := r.2.2) hx hb hw (fun _ h => h) hown hK hP a.toNat hw1 hcl q.2.1 hk hlink (fun _ h9 => h9) hv hd kk
        · exact va_getN (C := r.1) (T := r.2.1) (N := r.2.2) hx hb hw (fun _ h => h) hown hK hP a.toNat hw1 hcl q.2.1 hk hlink (fun _ h9 => h9) hv hd kk
      · rw [h100] at hm
        have e9 : ∀ k, m_fty 100 k = 9 := fun k => rfl
        rw [e9] at hm
        cases hm
    · cases hm
  · next x r =>
    obtain ⟨rr, rfl, h0, h1, hs2⟩ := m_s5 hs
    split at hm
    · next hc =>
      rcases hf with ⟨r, hcl, hw, hk, hlink⟩ | ⟨h100, hf⟩
      · have hlt : q.1 < 13 := Nat.lt_of_lt_of_le (List.getElem?_eq_some_iff.mp hcl).1 (show m_cl.length ≤ 13 by decide)
        omega
      · obtain ⟨⟨hSt, -⟩, -⟩ := hold
        obtain ⟨hO, hco, hva, hT⟩ := hSt x.toNat (by omega)
        rcases hf with ⟨e1, hlink⟩ | ⟨e1, hlink⟩
        · rw [if_pos e1] at hm
          cases hm
          refine vk_getf hx hb hva hS hown hlink (fun _ h9 => h9) hd ?_
          refine m_k0 K hl ⟨⟨by omega, by omega, ?_⟩, hs2⟩ hr hS
          show Value.ref (z.1 (x.toNat + 5)) = Value.ref (z.1 (x + 5).toNat)
          rw [show (x + 5).toNat = x.toNat + 5 by omega]
        · rw [if_neg (by omega)] at hm
          cases hm
          refine vk_getf hx hb hco hS hown hlink (fun _ h9 => h9) hd ?_
          exact m_k0 K hl ⟨m_i0 rfl, hs2⟩ hr hS
    · cases hm
  · cases hm

theorem o_putfield {idx : Nat} (hown : s.vm.findClass own = some m.cls) (hx : p.tables.exec = Jvm.exec) (hb : c.code = cc) (hl : m_lr ads z nL ls rls) (hs : m_vrs ads z st rst) (hr : m_rep D A ads s h H) (hS : va_S A s.heap H locs) (hd : decode cc pc = .ok (.putfield idx, 3)) (hf : ∃ r : vw_C, m_cl[q.1]? = some r ∧ m_cok q.1 r ∧ (∀ w ∈ u_ws r.1 r.2.1 r.2.2, w.before args s = true) ∧ q.2.1 < r.2.2 ∧ ((((r.2.1 q.2.1).2.2.2 = false ∨ (meth.name = "<init>" ∧ (r.2.1 q.2.1).1 = own)) ∧ (Cond.fieldLink own idx (r.2.1 q.2.1).1 (r.2.1 q.2.1).2.1 (r.2.1 q.2.1).2.2.1).before args s = true) ∨ ((r.2.1 q.2.1).2.2.2 = false ∧ ∃ host : String, (Cond.fieldLinkNest own idx (r.2.1 q.2.1).1 (r.2.1 q.2.1).2.1 (r.2.1 q.2.1).2.2.1 host).before args s = true))) (hm : mstep (.putfield idx) q pc ls st h = .ok (pc', ls', st', h')) (K : m_K p l e R s m args below meth c Q nL c0 s0 D A z ads pc' ls' st' h') : W p l e R s m args below meth c H locs (h.2.2.1 - c0) (h.2.2.2 - s0) Q (F0 m pc rls rst) := by
  unfold mstep at hm
  dsimp only at hm
  unfold m_putf at hm
  split at hm
  · next t x a r =>
    split at hm
    · next hc =>
      cases hm
      obtain ⟨X, r1, rfl, hX, hs1⟩ := m_sv hs
      obtain ⟨ad, rr, rfl, h0, had, hs2⟩ := m_s2 hs1
      obtain ⟨r, hcl, ⟨-, ⟨ty0, hty0, htyc⟩, hnm, -⟩, hw, hk, hlink⟩ := hf
      have hlt : q.1 < 13 := Nat.lt_of_lt_of_le (List.getElem?_eq_some_iff.mp hcl).1 (show m_cl.length ≤ 13 by decide)
      obtain ⟨ws, tys, x9, hC⟩ := m_at hr had (m_kfst hc.1 (by omega))
      have hC0 := hC
      obtain ⟨hK, hP, hD, hads, hlen, hall, hw1, hcr, hkd⟩ := hC
      have hcr2 := hcr.2
      rw [if_pos (by rw [hc.1]; exact hlt)] at hcr2
      obtain ⟨fs, q2, rfl, hq, hN, hfl, hfs⟩ := hcr2
      rw [hc.1] at hq hw1
      have hkl : q.2.1 < fs.length := by rw [hfl]; exact hc.2.1
      -- the value fits
      obtain ⟨hn, hfit, hsr⟩ := m_fits (htyc _ hk) hc.2.2 hX
      have kk : ∀ (H1 : Heap) (locs1 : List Loc), va_P D m_cl (ws.set a.toNat (ad, .inr (q.1, fs.set q.2.1 X))) H1 → va_D A (ws.set a.toNat (ad, .inr (q.1, fs.set q.2.1 X))) → va_S A s.heap H1 locs1 → W p l e R s m args below meth c H1 locs1 (h.2.2.1 - c0) (h.2.2.2 - s0) Q (F0 m (pc + 3) rls rr) := by
        intro H1 locs1 hP1 hD1 hS1
        refine m_k0 (h := (m_up h.1 a.toNat q.2.1 x, h.2)) K hl hs2 (m_setrep hC0 hP1 hD1 ?_ (fun j hj => m_up_ne hj)) hS1
        refine ⟨hcr.1, ?_⟩
        rw [if_pos (by rw [hc.1]; exact hlt)]
        refine ⟨fs.set q.2.1 X, q2, by rw [hc.1], by rw [hc.1]; exact hq, hN, by rw [List.length_set]; exact hfl, fun i hi => ?_⟩
        rw [m_up_at]
        by_cases e : i = q.2.1
        · subst e
          rw [if_pos rfl, List.getElem?_set_self hkl]
          refine ⟨X, rfl, ?_⟩
          rw [hc.1]
          exact hsr
        · rw [if_neg e, List.getElem?_set_ne (fun z9 => e z9.symm)]
          exact hfs i hi
      rcases hlink with ⟨hfin, hlink⟩ | ⟨hfin, host, hlink⟩
      · rcases hfin with hfin | ⟨hin, hdecl⟩
        · exact va_put (C := r.1) (T := r.2.1) (N := r.2.2) hx hb hw (fun _ h => h) ty0 hty0 hnm hown hK hP hD hS a.toNat hw1 hcl q.2.1 hk hlink (fun _ h9 => h9) hfin (hty0 _ hk) hn hfit hkl hd kk
        · cases hfn : (r.2.1 q.2.1).2.2.2 with
          | false => exact va_put (C := r.1) (T := r.2.1) (N := r.2.2) hx hb hw (fun _ h => h) ty0 hty0 hnm hown hK hP hD hS a.toNat hw1 hcl q.2.1 hk hlink (fun _ h9 => h9) hfn (hty0 _ hk) hn hfit hkl hd kk
          | true => exact va_putF (C := r.1) (T := r.2.1) (N := r.2.2) hx hb hw (fun _ h => h) ty0 hty0 hnm hown hK hP hD hS a.toNat hw1 hcl q.2.1 hk hlink (fun _ h9 => h9) hfn hin hdecl (hty0 _ hk) hn hfit hkl hd kk
      · exact va_putN (C := r.1) (T := r.2.1) (N := r.2.2) hx hb hw (fun _ h => h) ty0 hty0 hnm hown hK hP hD hS a.toNat hw1 hcl q.2.1 hk hlink (fun _ h9 => h9) hfin (hty0 _ hk) hn hfit hkl hd kk
    · cases hm
  · cases hm
end M8
