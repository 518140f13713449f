/-! THE READER OF THE CLASS: statements -/
def Px (C0 W : List Int) : Prop := ∃ X : List Int, W = C0 ++ X ∧ ∀ w ∈ X, 0 ≤ w ∧ w < 2147483648
theorem Px.rf {C0 : List Int} : Px C0 C0 := ⟨[], (List.append_nil _).symm, fun w h => by cases h⟩
theorem Px.app {C0 W Y : List Int} (h : Px C0 W) (hY : ∀ w ∈ Y, 0 ≤ w ∧ w < 2147483648) : Px C0 (W ++ Y) := by
  obtain ⟨X, rfl, hX⟩ := h
  refine ⟨X ++ Y, List.append_assoc _ _ _, fun w hw => ?_⟩
  rcases List.mem_append.mp hw with h | h
  · exact hX w h
  · exact hY w h
theorem Px.one {C0 W : List Int} {w : Int} (h : Px C0 W) (hw : 0 ≤ w ∧ w < 2147483648) : Px C0 (W ++ [w]) := h.app (fun v hv => by rw [List.mem_singleton.mp hv]; exact hw)
theorem Px.mid {C0 W V : List Int} (h : Px C0 W) (k : Px W V) : Px C0 V := by
  obtain ⟨X, rfl, hX⟩ := k
  exact h.app hX
theorem Px.w32 {C0 W : List Int} (h : Px C0 W) (k : W32 C0) : W32 W := by
  obtain ⟨X, rfl, hX⟩ := h
  intro j hj
  rw [List.length_append] at hj
  rw [gx_app]
  split
  · next e => exact k j e
  · exact hX _ (gx_mem (by omega))
theorem Px.wds {C0 W : List Int} {o : Nat} {p : Int} (h : Px C0 W) (ho : o < 256) (hp : -1 ≤ p ∧ p < 200) : Px C0 (W ++ wd o p) := by
  refine h.app ?_
  unfold wd
  split
  · intro w hw; cases hw
  · intro w hw
    rw [List.mem_singleton.mp hw]
    exact mk_w ho (by omega) (by omega)
section M67a
variable {K : List Int} {c0 a0 a : Nat} {l : Lv} {r : List Lv} {C C0 : List Int}
theorem Px_xop (h : Px C0 C) (ha : a < 256) : Px C0 (xop K a l r C).2.2.2 := by
  unfold xop
  repeat' split
  all_goals first | exact h | exact h.one (mk_w (by decide) ha (by decide))
theorem xcl_w : (xcl K a l r C).2.2.2 = C := by
  unfold xcl
  repeat' split
  all_goals rfl
theorem Px_xbh (h : Px C0 C) (hl : LOk a l) : Px C0 (xbh K a l r C).2.2.2 := by
  have h1 := (h.wds (o := 16) (by decide) hl.2.2.2.1).wds (o := 17) (by decide) hl.2.2.2.2.1
  have h2 := h1.wds (o := 17) (by decide) hl.2.2.2.2.2.1
  have h3 := h2.wds (o := 17) (by decide) hl.2.2.2.2.2.2
  unfold xbh xb2
  split
  · exact h1
  · unfold xb3
    split
    · exact h2
    · split
      · split
        · exact h2
        · rw [xcl_w]; exact h2
      · rw [xcl_w]; exact h3
theorem Px_xsh {y : XS} (hg : XG K c0 a0 a y) (hK : K.length ≤ 195) (h : Px C0 y.2.2.2) : Px C0 (xsh y).2.2.2 := by
  obtain ⟨s, a', L, C'⟩ := y
  by_cases e : s = 4
  · subst e
    obtain ⟨l', r', e1, h1, h2, h3, h4, h5, hcc, h6, h7, h8⟩ := hg.2.2 rfl
    change L = l' :: r' at e1
    change a' < K.length at h2
    change szs l' ≤ (a' : Int) + 1 at h8
    subst e1
    show Px C0 (C' ++ [mk (if shp l' = 1 then 18 else 15) (opn l').toNat (szs l').toNat])
    exact h.one (mk_w (by split <;> decide) (by omega) (by omega))
  · have hx : xsh (s, a', L, C') = (s, a', L, C') := by
      unfold xsh
      split
      · next e2 =>
        injection e2 with e3
        exact absurd e3 e
      · rfl
    rw [hx]
    exact h
def EO (K : List Int) (c0 a0 : Nat) (C0 : List Int) (y : XS) : Prop := (y.1 = 0 ∨ y.1 = 3) ∧ a0 ≤ y.2.1 ∧ y.2.1 ≤ K.length ∧ y.2.2.2.length ≤ c0 + (y.2.1 - a0) ∧ Px C0 y.2.2.2
theorem xrun_ok (hK : K.length ≤ 195) : ∀ (d s a : Nat) (l : Lv) (r : List Lv) (C : List Int), (s = 1 ∨ s = 2) → XI K c0 a0 (s, a, l :: r, C) → Px C0 C → EO K c0 a0 C0 (xrun K d (s, a, l :: r, C)) := by
  intro d
  induction d with
  | zero =>
    intro s a l r C hs hi h
    obtain ⟨i1, i2, i3, i4, i5⟩ := hi
    change C.length + (pnl l + pnd r) ≤ c0 + (a - a0) + 1 at i4
    have hpl : 1 ≤ pnl l := by unfold pnl; omega
    exact ⟨Or.inl rfl, i1, i2, by show C.length ≤ c0 + (a - a0); omega, h⟩
  | succ d ih =>
    intro s a l r C hs hi h
    have hl := hi.2.2.1 l List.mem_cons_self
    have ha : a ≤ K.length := hi.2.1
    obtain ⟨y, hy, hg, hs4, hp⟩ : ∃ y, xst K (s, a, l :: r, C) = xsh y ∧ XG K c0 a0 a y ∧ y.1 ≤ 4 ∧ Px C0 y.2.2.2 := by
      rcases hs with rfl | rfl
      · exact ⟨xop K a l r C, rfl, XG_xop hi hK, st_xop, Px_xop h (by omega)⟩
      · exact ⟨xbh K a l r C, rfl, XG_xbh hi hK, st_xbh, Px_xbh h hl⟩
    show EO K c0 a0 C0 (if (xst K (s, a, l :: r, C)).1 = 0 ∨ (xst K (s, a, l :: r, C)).1 = 3 then xst K (s, a, l :: r, C) else xrun K d (xst K (s, a, l :: r, C)))
    rw [hy]
    have ht := hg.sh hs4
    have hp2 := Px_xsh hg hK hp
    obtain ⟨w, hw⟩ : ∃ w, w = xsh y := ⟨_, rfl⟩
    rw [← hw] at ht hp2 ⊢
    rcases ht with ⟨t0, t1, t2, t3⟩ | ⟨t0, t1, t2, t3, t4⟩
    · rw [if_neg (by omega)]
      obtain ⟨ws, wa, wL, wC⟩ := w
      cases wL with
      | nil => exact absurd rfl t2
      | cons m q => exact ih ws wa m q wC t0 t1 hp2
    · rw [if_pos t0]
      exact ⟨t0, t1, t3, t4, hp2⟩
theorem exr_ok {cl : Bool} (hK : K.length ≤ 195) (ha : a ≤ K.length) (hcl : cl = true → a + 2 ≤ K.length) : EO K C.length a C (exr K cl a C) := by
  have go : ∀ (sh k : Nat), sh ≤ 2 → a + k ≤ K.length → EO K C.length a C (xrun K (K.length + 2) (1, a + k, lv0 (sh : Int) a :: [], C)) := fun sh k hs hk =>
    xrun_ok hK _ _ _ _ _ _ (Or.inl rfl) ⟨by show a ≤ a + k; omega, hk, all_cons (LOk.new (by omega) (by omega)) (fun m hm => by cases hm), by show C.length + (1 + 0) ≤ C.length + (a + k - a) + 1; omega, Nat.le_refl _⟩ Px.rf
  cases cl with
  | true => exact go 2 2 (by decide) (hcl rfl)
  | false => exact go 0 0 (by decide) ha
end M67a
def fi (K : List Int) (x : XS) (k : Int) (n : Nat) : Bool × Nat × List Int := if x.1 = 3 ∧ kn K x.2.1 = k then (true, x.2.1 + n, x.2.2.2) else (false, x.2.1, x.2.2.2)
theorem sth_fi {K : List Int} {a : Nat} {C : List Int} : sth K a C = (if kn K a = 5 then fi K (exr K false (a + 1) C) 12 0 else if kn K a = 7 then fi K (exr K false (a + 1) C) 15 1 else if kn K a = 0 ∧ kn K (a + 1) = 10 then fi K (exr K true a C) 15 1 else if kn K (if kn K a = 4 then a + 1 else a) = 0 then (if kn K ((if kn K a = 4 then a + 1 else a) + 1) = 16 then fi K (exr K false ((if kn K a = 4 then a + 1 else a) + 2) C) 15 1 else (false, (if kn K a = 4 then a + 1 else a) + 1, C)) else (false, (if kn K a = 4 then a + 1 else a), C)) := rfl
def psx (K : List Int) (a : Nat) (q st : Int) (S : List (Int × Int)) (C : List Int) (E : EE) (Fn : FF) (U : List Int) (x : Bool × Nat × List Int) : PS :=
  if x.1 = false then (skS K (K.length - x.2.1) x.2.1, (q, st) :: S, C ++ [mk 13 a 0], E ++ [((x.2.1 : Int), (a : Int), ((skS K (K.length - x.2.1) x.2.1 : Nat) : Int) - 1)], Fn, U)
  else if kn K a = 5 then (x.2.1 + 1, (2, (x.2.2.length : Int)) :: (q, st) :: S, x.2.2 ++ [mk 11 a 0, mk 3 x.2.1 0], E, Fn, U)
  else if kn K a = 4 then (x.2.1, (q, st) :: S, x.2.2 ++ [mk 7 (a + 1) (x.2.1 - 1)], E, Fn, U)
  else (x.2.1, (q, st) :: S, x.2.2 ++ [mk (if kn K a = 7 then 10 else if kn K (a + 1) = 10 then 9 else 8) a 0], E, Fn, U)
theorem pst_psx {K : List Int} {a : Nat} {q st : Int} {S : List (Int × Int)} {C : List Int} {E : EE} {Fn : FF} {U : List Int} : pst K a q st S C E Fn U = (if kn K a = 13 then pcb K a true q st S C E Fn U else if bgn (kn K a) = true then pcb K a false q st S C E Fn U else if kn K a = 12 then (a + 1, (1, -1) :: (q, st) :: S, C ++ [mk 6 a 0, mk 3 a 0], E, Fn, U) else psx K a q st S C E Fn U (sth K a (C ++ [mk 6 a 0]))) := rfl
section M67
variable {F G : MF} {n t b z a : Nat} {K : List Int} {S : List (Int × Int)} {C : List Int} {E : EE} {Fn : FF} {U : List Int}
theorem RC.cut {X : List Int} (hX : RX n t b z K) (h : RC F n t b K a S (C ++ X) E Fn U) : RC (m_up F t 1 (C.length : Int)) n t b K a S C E Fn U := by
  have hs := hX.2.2.2.2.2.2
  have hb := hX.2.2.2.2.2.1 t (Or.inr (Or.inr ⟨by omega, by omega⟩))
  obtain ⟨⟨g1, g2, g3, g4⟩, h2, ⟨h3, h4⟩, ⟨h5, h6⟩, ⟨i1, i2⟩, ⟨j1, j2⟩, ⟨k1, k2⟩⟩ := h
  have en : m_up F t 1 (C.length : Int) n = F n := up_row (by omega)
  have e5 : ∀ j, j ≠ 1 → m_up F t 1 (C.length : Int) t j = F t j := fun j hj => u_ne (Or.inr hj)
  have ec : ∀ c, t < c → m_up F t 1 (C.length : Int) c = F c := fun c hc => up_row (by omega)
  refine ⟨⟨?_, ?_, ?_, ?_⟩, ?_, ⟨?_, ?_⟩, ⟨u_eq, ?_⟩, ⟨?_, ?_⟩, ⟨?_, ?_⟩, ⟨?_, ?_⟩⟩
  · rw [en]; exact g1
  · rw [en]; exact g2
  · rw [en]; exact g3
  · rw [up_row (fun e => hb e.symm)]; exact g4
  · rw [en]; exact h2
  · rw [en]; exact h3
  · rw [up_row (by omega), up_row (by omega)]; exact h4
  · rw [ec _ (by omega)]
    intro i hi
    have := h6 i (by rw [List.length_append]; omega)
    rw [gx_app, if_pos hi] at this
    exact this
  · rw [e5 _ (by decide)]; exact i1
  · rw [ec _ (by omega), ec _ (by omega), ec _ (by omega)]; exact i2
  · rw [e5 _ (by decide)]; exact j1
  · rw [ec _ (by omega), ec _ (by omega), ec _ (by omega), ec _ (by omega)]; exact j2
  · rw [e5 _ (by decide)]; exact k1
  · rw [ec _ (by omega)]; exact k2
abbrev PQ (n t b : Nat) (K : List Int) (G : MF) (x : PS) : MF → Prop := fun F' => fr (RP n t) G F' ∧ RCp F' n t b K x
theorem l_276n {q st k f : Int} {e : Nat} {W : List Int} (hX : RX n t b z K) (hS : St F) (h : RC F n t b K e ((q, st) :: S) W E Fn U) (hW : Px C W) (he : e ≤ K.length) (ha : a < 200) (hC : C.length < 640) (hE : E.length < 200) (hG : fr (RP n t) G F) :
    L_68_276 n k (a : Int) (C.length : Int) f 0 F (PQ n t b K G (psx K a q st S C E Fn U (false, e, W))) m_no := by
  have hK := hX.2.2.2.2.1
  have hk := skS_le K (K.length - e) e
  have hk2 := skS_ge K (K.length - e) e
  refine b_68_276 hX.1 hS ⟨fun _ => ⟨t, h.row, hX.2.1, ?_⟩, fun h0 => absurd rfl h0⟩
  obtain ⟨X, rfl, -⟩ := hW
  have h1 := h.cut hX
  have hS1 : St (m_up F t 1 (C.length : Int)) := hS.fld (ok_9 hX.2.1) rk_9_1
  refine CaV.on (s_skip hX hS1 h1 he) ?_
  rintro F2 hS2 ⟨k1, k2⟩
  refine ⟨t, k1.row, hX.2.1, ?_⟩
  rw [k1.2.1, h.2.1]
  refine ⟨by omega, CaV.on (s_123 hX.2.1 hS2 k1.2.2.2 hE) ?_⟩
  rintro F3 hS3 ⟨k3, k4⟩
  have h3 := k1.tree hX k4 k3
  refine ⟨t, h3.row, hX.2.1, ?_⟩
  refine CaV.on (s_121 (o := 13) (p := a) (e := 0) hX.2.1 hS3 h3.2.2.2 hC (by omega) (by omega) (by omega)) ?_
  rintro F4 hS4 ⟨k5, k6⟩
  exact ⟨(((hG.up (Or.inr (Or.inr ⟨by omega, by omega⟩))).tr (k2.mo (fun c h => Or.inl h))).tr (k4.mo TP_RP)).tr (k6.mo TP_RP), h3.tree hX k6 k5⟩
theorem l_276y {q st f : Int} {e : Nat} {W : List Int} (hX : RX n t b z K) (hS : St F) (h : RC F n t b K e ((q, st) :: S) W E Fn U) (he : e ≤ K.length) (he2 : a < e) (ha : a < 195) (hW : W.length + 1 < 640) (hSl : S.length + 1 < 200) (hG : fr (RP n t) G F)
    (hf : kn K a ≠ 7 → kn K a ≠ 5 → kn K a ≠ 4 → f = if kn K (a + 1) = 10 then 1 else 0) :
    L_68_276 n (kn K a) (a : Int) (C.length : Int) f 1 F (PQ n t b K G (psx K a q st S C E Fn U (true, e, W))) m_no := by
  have hK := hX.2.2.2.2.1
  refine b_68_276 hX.1 hS ⟨fun h0 => absurd h0 (by decide), fun _ => ?_⟩
  have e1 : psx K a q st S C E Fn U (true, e, W) = (if kn K a = 5 then (e + 1, (2, (W.length : Int)) :: (q, st) :: S, W ++ [mk 11 a 0, mk 3 e 0], E, Fn, U)
    else if kn K a = 4 then (e, (q, st) :: S, W ++ [mk 7 (a + 1) (e - 1)], E, Fn, U)
    else (e, (q, st) :: S, W ++ [mk (if kn K a = 7 then 10 else if kn K (a + 1) = 10 then 9 else 8) a 0], E, Fn, U)) := by
    unfold psx
    rw [if_neg (show ¬ true = false by decide)]
  rw [e1]
  refine ⟨fun k1 => ⟨t, h.row, hX.2.1, ?_⟩, fun k1 => ⟨fun k2 => ⟨t, h.row, hX.2.1, ?_⟩, fun k2 => ⟨t, h.row, hX.2.1, ?_⟩⟩⟩
  · rw [if_pos k1]
    refine CaV.on (s_121 (o := 11) (p := a) (e := 0) hX.2.1 hS h.2.2.2 (by omega) (by omega) (by omega) (by omega)) ?_
    rintro F3 hS3 ⟨k3, k4⟩
    have h3 := h.tree hX k4 k3
    refine ⟨t, h3.row, hX.2.1, ?_⟩
    rw [h3.cnt, List.length_append, List.length_singleton, show ((W.length + 1 : Nat) : Int) - 1 = (W.length : Int) by omega]
    refine ⟨by omega, CaV.on (s_65 (x := 2) (y := (W.length : Int)) hX hS3 h3 (by rw [List.length_append, List.length_singleton]; omega) (by omega) (by rw [List.length_cons]; exact hSl)) ?_⟩
    rintro F4 hS4 ⟨k5, k6⟩
    rw [List.append_assoc] at k5
    exact ⟨(hG.tr (k4.mo TP_RP)).tr k6, k5⟩
  · rw [if_neg k1, if_pos k2, h.2.1, show (a : Int) + 1 = ((a + 1 : Nat) : Int) by omega, show (e : Int) - 1 = ((e - 1 : Nat) : Int) by omega]
    refine ⟨by omega, by omega, CaV.on (s_121 (o := 7) (p := a + 1) (e := e - 1) hX.2.1 hS h.2.2.2 (by omega) (by omega) (by omega) (by omega)) ?_⟩
    rintro F3 hS3 ⟨k3, k4⟩
    exact ⟨hG.tr (k4.mo TP_RP), h.tree hX k4 k3⟩
  · rw [if_neg k1, if_neg k2]
    have go : ∀ o : Nat, o < 256 → C_121 t (o : Int) (a : Int) 0 F (PQ n t b K G (e, (q, st) :: S, W ++ [mk o a 0], E, Fn, U)) m_no := by
      intro o ho
      refine CaV.on (s_121 (o := o) (p := a) (e := 0) hX.2.1 hS h.2.2.2 (by omega) ho (by omega) (by omega)) ?_
      rintro F3 hS3 ⟨k3, k4⟩
      exact ⟨hG.tr (k4.mo TP_RP), h.tree hX k4 k3⟩
    refine ⟨fun k3 => ?_, fun k3 => ?_⟩
    · rw [if_pos k3]
      exact go 10 (by decide)
    · rw [if_neg k3]
      have hf' := hf k3 k1 k2
      refine ⟨fun k4 => ?_, fun k4 => ?_⟩
      · have : ¬ kn K (a + 1) = 10 := fun e => by rw [if_pos e] at hf'; omega
        rw [if_neg this]
        exact go 8 (by decide)
      · have : kn K (a + 1) = 10 := by
          refine Classical.byContradiction fun e => ?_
          rw [if_neg e] at hf'
          exact k4 hf'
        rw [if_pos this]
        exact go 9 (by decide)
end M67
