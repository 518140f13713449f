/-! WHICH TOKENS A LET HAS; FUNCTIONS STAND ONE BEHIND THE OTHER -/
def okx (k : Int) : Prop := k ≠ 15 ∧ k ≠ 3
def ZO (K : List Int) (a0 : Nat) (y : XS) : Prop := (∀ q, a0 ≤ q → q < y.2.1 → okx (kn K q)) ∧ (y.1 = 4 → okx (kn K y.2.1))
def LtW (K : List Int) (w : Int) : Prop := wo w = 7 → ∃ t e : Nat, w = mk 7 t e ∧ t < 256 ∧ 1 ≤ t ∧ kn K (t - 1) = 4 ∧ t + 1 < e ∧ e < K.length ∧ kn K e = 15 ∧ ∀ q, t ≤ q → q < e → okx (kn K q)
def FnW (K : List Int) (w : Int) : Prop := wo w = 2 → ∃ p n : Nat, w = mk 2 p n ∧ p < 256 ∧ 1 ≤ p ∧ kn K (p - 1) = 3
/-- words ahead of a function speak of tokens ahead of its NAME, those behind of others -/
def FS (C : List Int) : Prop := ∀ j, j < C.length → wo (gx C j) = 2 → (∀ i, i < j → ∀ t : Int, tin t (gx C i) → t < wt (gx C j)) ∧ ∀ q, j < q → q < C.length → ∀ t : Int, tin t (gx C q) → wt (gx C j) ≤ t
def LV (K : List Int) (x : PS) : Prop := (∀ w ∈ x.2.2.1, LtW K w ∧ FnW K w) ∧ FS x.2.2.1 ∧ ∀ w ∈ x.2.2.1, wo w = 2 → wt w ≤ (x.1 : Int)
section Mk0
variable {K C V D D' : List Int} {a a0 a' s s' : Nat} {l : Lv} {r L L' : List Lv}
theorem okx_of {k : Int} (h : k ≠ 15) (h2 : k ≠ 3) : okx k := ⟨h, h2⟩
theorem ZO.nx (h : ZO K a0 (s, a, L, D)) (hk : okx (kn K a)) (hs : s' ≠ 4) : ZO K a0 (s', a + 1, L', D') := ⟨fun q h1 h2 => by
  change q < a + 1 at h2
  by_cases e : q = a
  · rw [e]; exact hk
  · exact h.1 q h1 (show q < a by omega), fun h => absurd h hs⟩
theorem ZO.nx2 (h : ZO K a0 (s, a, L, D)) (hk : okx (kn K a)) (hk2 : okx (kn K (a + 1))) (hs : s' ≠ 4) : ZO K a0 (s', a + 2, L', D') := (h.nx (s' := 0) (L' := L) (D' := D) hk (by decide)).nx hk2 hs
theorem ZO.st (h : ZO K a0 (s, a, L, D)) (hs : s' = 4 → okx (kn K a)) : ZO K a0 (s', a, L', D') := ⟨h.1, hs⟩
theorem ZO_xop (h : ZO K a0 (1, a, l :: r, C)) : ZO K a0 (xop K a l r C) := by
  unfold xop
  split
  · next e => exact h.nx (okx_of (by omega) (by omega)) (by decide)
  · split
    · next e => exact h.nx2 (okx_of (by omega) (by omega)) (okx_of (by omega) (by omega)) (by decide)
    · split
      · next e => exact h.nx (okx_of (by omega) (by omega)) (by decide)
      · split
        · next e => exact h.st (fun _ => okx_of (by omega) (by omega))
        · split
          · next e => exact h.nx (okx_of (by omega) (by omega)) (by decide)
          · exact h.st (fun h => absurd h (by decide))
theorem ZO_xcl (h : ZO K a0 (s, a, L, C)) : ZO K a0 (xcl K a l r C) := by
  unfold xcl
  split
  · exact h.st (fun h => absurd h (by decide))
  · split
    · split
      · next e => exact h.nx (okx_of (by omega) (by omega)) (by decide)
      · split
        · next e => exact h.st (fun _ => okx_of (by omega) (by omega))
        · exact h.st (fun h => absurd h (by decide))
    · split
      · next e => exact h.st (fun _ => okx_of (by omega) (by omega))
      · exact h.st (fun h => absurd h (by decide))
theorem ZO.xcl' (h : ZO K a0 (s, a, L, D)) : ZO K a0 (xcl K a l r C) := ZO_xcl (s := 0) (L := L) (h.st (fun h => absurd h (by decide)))
theorem ZO_xb3 (h : ZO K a0 (s, a, L, D)) : ZO K a0 (xb3 K a l r C) := by
  unfold xb3
  split
  · next e => exact h.nx (okx_of (by omega) (by omega)) (by decide)
  · split
    · split
      · next e => exact h.nx (okx_of (by omega) (by omega)) (by decide)
      · exact h.xcl'
    · exact h.xcl'
theorem ZO_xbh (h : ZO K a0 (2, a, l :: r, C)) : ZO K a0 (xbh K a l r C) := by
  unfold xbh xb2
  split
  · next e => exact h.nx (okx_of (by omega) (by omega)) (by decide)
  · exact ZO_xb3 h
theorem ZO_xst {x : XS} (h : ZO K a0 x) : ZO K a0 (xst K x) := by
  obtain ⟨s, a, L, D⟩ := x
  have sh : ∀ y : XS, ZO K a0 y → ZO K a0 (xsh y) := by
    rintro ⟨s, a, L, D⟩ hy
    match s, L with
    | 4, m :: r => exact hy.nx (hy.2 rfl) (by split <;> decide)
    | 4, [] => exact hy
    | 0, _ => exact hy
    | 1, _ => exact hy
    | 2, _ => exact hy
    | 3, _ => exact hy
    | n + 5, _ => exact hy
  match s, L with
  | 1, l :: r => exact sh _ (ZO_xop h)
  | 2, l :: r => exact sh _ (ZO_xbh h)
  | 1, [] => exact h
  | 2, [] => exact h
  | 0, _ => exact h
  | 3, _ => exact h
  | n + 4, _ => exact h
theorem ZO_xrun : ∀ (d : Nat) (x : XS), ZO K a0 x → ∀ q, a0 ≤ q → q < (xrun K d x).2.1 → okx (kn K q) := by
  intro d
  induction d with
  | zero => intro x h; exact h.1
  | succ d ih =>
    intro x h
    have h1 := ZO_xst h
    show ∀ q, a0 ≤ q → q < (if (xst K x).1 = 0 ∨ (xst K x).1 = 3 then xst K x else xrun K d (xst K x)).2.1 → okx (kn K q)
    split
    · exact h1.1
    · exact ih _ h1
theorem exr_okx (q : Nat) (h1 : a ≤ q) (h2 : q < (exr K false a C).2.1) : okx (kn K q) := ZO_xrun (a0 := a) _ _ ⟨fun q a1 a2 => absurd (show q < a from a2) (by omega), fun h => absurd (show (1 : Nat) = 4 from h) (by decide)⟩ q h1 h2
/-- a LET that is read to its end -/
theorem sth_let (hK : K.length ≤ 195) (ha : a < K.length) (hk : kn K a = 4) (hx : (sth K a C).1 = true) : ∃ e, (sth K a C).2.1 = e + 1 ∧ a + 2 < e ∧ e < K.length ∧ kn K e = 15 ∧ kn K (a + 1) = 0 ∧ ∀ q, a + 1 ≤ q → q < e → okx (kn K q) := by
  revert hx
  rw [sth_fi, if_neg (by omega), if_neg (by omega), if_neg (by omega), if_pos hk]
  by_cases e0 : kn K (a + 1) = 0
  · rw [if_pos e0]
    by_cases e16 : kn K (a + 1 + 1) = 16
    · rw [if_pos e16]
      have hl : a + 1 + 1 < K.length := kn_lt (by rw [e16]; decide)
      have ok := exr_okx (K := K) (a := a + 1 + 2) (C := C)
      have hd := XD_exr (cl1 := false) (C := C) (a := a + 1 + 2) hK (by omega) (fun h => absurd h (by decide))
      revert ok hd
      generalize exr K false (a + 1 + 2) C = y
      intro ok hd hx
      by_cases e : y.1 = 3 ∧ kn K y.2.1 = 15
      · rw [fi_y e]
        have hl2 := hd.1
        have hl3 : y.2.1 < K.length := kn_lt (by rw [e.2]; decide)
        refine ⟨y.2.1, rfl, by omega, hl3, e.2, e0, fun q h1 h2 => ?_⟩
        by_cases c1 : q = a + 1
        · rw [c1, e0]; exact okx_of (by decide) (by decide)
        · by_cases c2 : q = a + 1 + 1
          · rw [c2, e16]; exact okx_of (by decide) (by decide)
          · exact ok q (by omega) h2
      · rw [fi_n e] at hx
        exact absurd hx (by show ¬ (false : Bool) = true; decide)
    · rw [if_neg e16]; intro h; exact absurd h (by show ¬ (false : Bool) = true; decide)
  · rw [if_neg e0]; intro h; exact absurd h (by show ¬ (false : Bool) = true; decide)
theorem tin_aim {i p j : Nat} {t : Int} (hj : jp C i) : wo (gx (aim C (i : Int) p) j) = wo (gx C j) ∧ wt (gx (aim C (i : Int) p) j) = wt (gx C j) ∧ (tin t (gx (aim C (i : Int) p) j) ↔ tin t (gx C j)) := by
  rw [aim_set hj.1, gx_set C i j hj.1]
  by_cases e : j = i
  · rw [if_pos e, e]
    have h := hj.2
    have e1 : wo (gx C i % 65536 + 65536 * (p : Int)) = wo (gx C i) := by unfold wo; omega
    have e2 : wt (gx C i % 65536 + 65536 * (p : Int)) = wt (gx C i) := by unfold wt; omega
    refine ⟨e1, e2, ?_⟩
    unfold tin
    rw [e1]
    omega
  · rw [if_neg e]
    exact ⟨rfl, rfl, Iff.rfl⟩
theorem FS.aimm {i p : Nat} (hj : jp C i) (h : FS C) : FS (aim C (i : Int) p) := by
  have hl : (aim C (i : Int) p).length = C.length := by rw [aim_set hj.1, List.length_set]
  intro j hj1 hj2
  rw [hl] at hj1
  rw [(tin_aim (t := 0) hj).1] at hj2
  obtain ⟨h1, h2⟩ := h j hj1 hj2
  refine ⟨fun q hq t ht => ?_, fun q hq hq2 t ht => ?_⟩
  · rw [(tin_aim (t := 0) hj).2.1]
    exact h1 q hq t ((tin_aim hj).2.2.mp ht)
  · rw [hl] at hq2
    rw [(tin_aim (t := 0) hj).2.1]
    exact h2 q hq hq2 t ((tin_aim hj).2.2.mp ht)
theorem LtW_mk {o t e : Nat} (ho : o < 256) (h : o ≠ 7) (h2 : o ≠ 2) : LtW K (mk o t e) ∧ FnW K (mk o t e) := ⟨fun h3 => by rw [wo_mk ho] at h3; omega, fun h3 => by rw [wo_mk ho] at h3; omega⟩
theorem LtW_wx {w : Int} (h : WX K w) : LtW K w ∧ FnW K w := by
  obtain ⟨o, t, e, rfl, -, h2⟩ := h
  exact LtW_mk (by omega) (by omega) (by omega)
theorem LtW_aim {w : Int} {i p : Nat} (hj : jp C i) (h : ∀ w ∈ C, LtW K w ∧ FnW K w) (hw : w ∈ aim C (i : Int) p) : LtW K w ∧ FnW K w := by
  rw [aim_set hj.1] at hw
  rcases mst_mem i w hw with h1 | h1
  · exact h w h1
  · have h2 := hj.2
    have e : wo w = wo (gx C i) := by rw [h1]; unfold wo; omega
    exact ⟨fun h3 => by omega, fun h3 => by omega⟩
theorem wt_aim {w : Int} {i p : Nat} (hj : jp C i) (h : ∀ w ∈ C, wo w = 2 → wt w ≤ (a : Int)) (hw : w ∈ aim C (i : Int) p) : wo w = 2 → wt w ≤ (a : Int) := by
  rw [aim_set hj.1] at hw
  rcases mst_mem i w hw with h1 | h1
  · exact h w h1
  · have h2 := hj.2
    have e : wo w = wo (gx C i) := by rw [h1]; unfold wo; omega
    intro h3
    omega
theorem FS.add (h : FS C) (hw : ∀ w ∈ C, wo w = 2 → wt w ≤ (a : Int)) (h2 : ∀ w ∈ V, wo w ≠ 2) (h3 : ∀ w ∈ V, ∀ t : Int, tin t w → (a : Int) ≤ t) : FS (C ++ V) := by
  intro j hj hj2
  rw [List.length_append] at hj
  by_cases c : j < C.length
  · rw [gx_app, if_pos c] at hj2 ⊢
    obtain ⟨a1, a2⟩ := h j c hj2
    refine ⟨fun i hi t ht => ?_, fun q hq hq2 t ht => ?_⟩
    · rw [gx_app, if_pos (by omega)] at ht
      exact a1 i hi t ht
    · rw [List.length_append] at hq2
      by_cases c2 : q < C.length
      · rw [gx_app, if_pos c2] at ht
        exact a2 q hq c2 t ht
      · rw [gx_app, if_neg c2] at ht
        have b1 := h3 _ (gx_mem (show q - C.length < V.length by omega)) t ht
        have b2 := hw _ (gx_mem c) hj2
        omega
  · rw [gx_app, if_neg c] at hj2
    exact absurd hj2 (h2 _ (gx_mem (by omega)))
theorem tin_no {o t e : Nat} {q : Int} (ho : o < 256) (h2 : o ≠ 2) (h7 : o ≠ 7) (h8 : o ≠ 8) (h14 : o ≠ 14) (h15 : o ≠ 15) : ¬ tin q (mk o t e) := by
  unfold tin
  rw [wo_mk ho]
  omega
theorem tin_sp {lo hi : Nat} (h : SpW V lo hi) {w t : Int} (hw : w ∈ V) (ht : tin t w) : (lo : Int) ≤ t ∧ t < (hi : Int) := by
  have h1 : 1 ≤ sm (cw t) V := by
    clear h
    induction V with
    | nil => exact absurd hw (List.not_mem_nil)
    | cons v V ih =>
      show 1 ≤ cw t v + sm (cw t) V
      rcases List.mem_cons.mp hw with e | e
      · rw [← e, cw_1 ht]; omega
      · have := ih e; omega
  by_cases c : t < (lo : Int) ∨ (hi : Int) ≤ t
  · have := (h t).2 c; omega
  · omega
/-- words that are no function, and speak of tokens from a place on -/
theorem LV.add {S S' : List (Int × Int)} {E E' : EE} {Fn Fn' : FF} {U U' : List Int} (h : LV K (a, S, C, E, Fn, U)) (ha : a ≤ a') (h1 : ∀ w ∈ V, LtW K w ∧ FnW K w) (h2 : ∀ w ∈ V, wo w ≠ 2) (h3 : ∀ w ∈ V, ∀ t : Int, tin t w → (a : Int) ≤ t) : LV K (a', S', C ++ V, E', Fn', U') :=
  ⟨fun w hw => (List.mem_append.mp hw).elim (h.1 w) (h1 w), h.2.1.add h.2.2 h2 h3, fun w hw h4 => by
    rcases List.mem_append.mp hw with h5 | h5
    · have := h.2.2 w h5 h4
      change wt w ≤ (a : Int) at this
      show wt w ≤ (a' : Int)
      omega
    · exact absurd h4 (h2 w h5)⟩
theorem LV.up {S S' : List (Int × Int)} {E E' : EE} {Fn Fn' : FF} {U U' : List Int} (h : LV K (a, S, C, E, Fn, U)) (ha : a ≤ a') : LV K (a', S', C, E', Fn', U') := by
  have := LV.add (V := []) (S' := S') (E' := E') (Fn' := Fn') (U' := U') h ha (fun w hw => absurd hw (List.not_mem_nil)) (fun w hw => absurd hw (List.not_mem_nil)) (fun w hw => absurd hw (List.not_mem_nil))
  rw [List.append_nil] at this
  exact this
theorem LV.one {o t e : Nat} {S S' : List (Int × Int)} {E E' : EE} {Fn Fn' : FF} {U U' : List Int} (h : LV K (a, S, C, E, Fn, U)) (ha : a ≤ a') (ho : o < 256 ∧ o ≠ 2 ∧ o ≠ 7 ∧ o ≠ 8 ∧ o ≠ 14 ∧ o ≠ 15) : LV K (a', S', C ++ [mk o t e], E', Fn', U') :=
  h.add ha (fun w hw => by rw [List.mem_singleton.mp hw]; exact LtW_mk ho.1 ho.2.2.1 ho.2.1) (fun w hw => by rw [List.mem_singleton.mp hw, wo_mk ho.1]; omega) (fun w hw t ht => by rw [List.mem_singleton.mp hw] at ht; exact absurd ht (tin_no ho.1 ho.2.1 ho.2.2.1 ho.2.2.2.1 ho.2.2.2.2.1 ho.2.2.2.2.2))
theorem LV.am {i p : Nat} {S S' : List (Int × Int)} {E E' : EE} {Fn Fn' : FF} {U U' : List Int} (h : LV K (a, S, C, E, Fn, U)) (hj : jp C i) : LV K (a, S', aim C (i : Int) p, E', Fn', U') :=
  ⟨fun w hw => LtW_aim hj h.1 hw, h.2.1.aimm hj, fun w hw => wt_aim hj h.2.2 hw⟩
theorem LV_pel {q st : Int} {S : List (Int × Int)} {E : EE} {Fn : FF} {U : List Int} (h : LV K (a, S, C, E, Fn, U)) (hst : q = 2 → ∃ i : Nat, st = (i : Int) ∧ jp C i) : LV K (pel K a q st S C E Fn U) := by
  unfold pel
  split
  · next e =>
    obtain ⟨i, rfl, hj⟩ := hst e.1
    split
    · have h1 := h.one (o := 12) (t := a) (e := 0) (a' := a) (S' := S) (E' := E) (Fn' := Fn) (U' := U) (Nat.le_refl _) (by decide)
      have h2 := h1.am (i := i) (p := C.length + 1) (S' := S) (E' := E) (Fn' := Fn) (U' := U) hj.app
      exact h2.one (by omega) (by decide)
    · have := skS_ge K (K.length - (a + 1)) (a + 1)
      exact h.up (by omega)
  · exact h
theorem LV_pcb {cl1 : Bool} {q st : Int} {S : List (Int × Int)} {E : EE} {Fn : FF} {U : List Int} (hV : PSo ((q, st) :: S) C) (h : LV K (a, (q, st) :: S, C, E, Fn, U)) : LV K (pcb K a cl1 q st S C E Fn U) := by
  rw [pcb_pc2]
  have hge : a ≤ (if cl1 = true then a + 1 else a) := by split <;> omega
  generalize (if cl1 = true then a + 1 else a) = a2 at hge
  have k2 : PSo ((q, st) :: S) (C ++ [mk 4 a (if cl1 = true then 1 else 0)]) := hV.app
  have h2 : ∀ S' E' Fn', LV K (a2, S', C ++ [mk 4 a (if cl1 = true then 1 else 0)], E', Fn', U) := fun S' E' Fn' => h.one hge (by decide)
  generalize C ++ [mk 4 a (if cl1 = true then 1 else 0)] = C2 at k2 h2
  generalize (if cl1 = true then E else E ++ [((a : Int), -1, -1)]) = E2
  unfold pc2
  split
  · exact LV_pel (LV.one (h2 S E2 Fn) (Nat.le_refl _) (by decide)) (fun h => by omega)
  · split
    · exact LV_pel (h2 S E2 Fn) (fun h => by omega)
    · rcases k2 (q, st) (List.mem_cons_self) with hq | ⟨i, e, hj⟩
      · change q = 0 ∨ q = 1 at hq
        omega
      · change st = (i : Int) at e
        subst e
        exact LV_pel ((h2 S E2 Fn).am hj) (fun _ => ⟨i, rfl, hj.aim hj.1⟩)
theorem LV_pst {q st : Int} {S : List (Int × Int)} {E : EE} {Fn : FF} {U : List Int} (hK : K.length ≤ 195) (hV : PSo ((q, st) :: S) C) (h : LV K (a, (q, st) :: S, C, E, Fn, U)) : LV K (pst K a q st S C E Fn U) := by
  rw [pst_psx]
  by_cases h13 : kn K a = 13
  · rw [if_pos h13]
    exact LV_pcb hV h
  rw [if_neg h13]
  by_cases hb : bgn (kn K a) = true
  · rw [if_pos hb]
    exact LV_pcb hV h
  rw [if_neg hb]
  have hl : a < K.length := kn_lt (fun e => hb (by rw [e]; decide))
  by_cases h12 : kn K a = 12
  · rw [if_pos h12]
    have h1 := h.one (o := 6) (t := a) (e := 0) (a' := a) (S' := S) (E' := E) (Fn' := Fn) (U' := U) (Nat.le_refl _) (by decide)
    have h2 := h1.one (o := 3) (t := a) (e := 0) (a' := a + 1) (S' := (1, -1) :: (q, st) :: S) (E' := E) (Fn' := Fn) (U' := U) (by omega) (by decide)
    rw [List.append_assoc] at h2
    exact h2
  rw [if_neg h12]
  have so := SO_sth (W := C ++ [mk 6 a 0]) hK hl
  have hd := sth_D (C := C) hK hl
  have hlt := sth_let (C := C ++ [mk 6 a 0]) hK hl
  revert so hd hlt
  generalize sth K a (C ++ [mk 6 a 0]) = x
  obtain ⟨ok, e, W⟩ := x
  intro so hd hlt
  have s1 : a ≤ e := so.1
  unfold psx
  cases ok with
  | false =>
    rw [if_pos rfl]
    have := skS_ge K (K.length - e) e
    exact h.one (show a ≤ skS K (K.length - e) e by omega) (by decide)
  | true =>
    rw [if_neg (show ¬ (true : Bool) = false by decide)]
    obtain ⟨D, d1, dw, ⟨d2, d3⟩, d4, d5⟩ := hd rfl
    change W = C ++ mk 6 a 0 :: D at d1
    change SpW D (if kn K a = 4 then a + 2 else if kn K a = 0 ∧ kn K (a + 1) ≠ 10 then a + 1 else a) e at d2
    have hlo : a ≤ (if kn K a = 4 then a + 2 else if kn K a = 0 ∧ kn K (a + 1) ≠ 10 then a + 1 else a) := by split <;> (try split) <;> omega
    have hW : ∀ S' E' Fn' U', LV K (a, S', W, E', Fn', U') := fun S' E' Fn' U' => by
      have h1 := h.one (o := 6) (t := a) (e := 0) (a' := a) (S' := S') (E' := E') (Fn' := Fn') (U' := U') (Nat.le_refl _) (by decide)
      have h2 := h1.add (V := D) (a' := a) (S' := S') (E' := E') (Fn' := Fn') (U' := U') (Nat.le_refl _) (fun w hw => LtW_wx (dw w hw)) (fun w hw => by
        obtain ⟨o, t, e, e1, -, e2⟩ := dw w hw
        rw [e1, wo_mk (by omega)]
        omega) (fun w hw t ht => by have := tin_sp d2 hw ht; omega)
      rw [List.append_assoc] at h2
      rw [d1]
      exact h2
    split
    · have h1 := (hW S E Fn U).one (o := 11) (t := a) (e := 0) (a' := a) (S' := S) (E' := E) (Fn' := Fn) (U' := U) (Nat.le_refl _) (by decide)
      have h2 := h1.one (o := 3) (t := e) (e := 0) (a' := e + 1) (S' := (2, (W.length : Int)) :: (q, st) :: S) (E' := E) (Fn' := Fn) (U' := U) (by omega) (by decide)
      rw [List.append_assoc] at h2
      exact h2
    · split
      · next k4 =>
        obtain ⟨e', e1, e2, e3, e4, e5, e6⟩ := hlt k4 rfl
        change e = e' + 1 at e1
        refine LV.add (V := [mk 7 (a + 1) (e - 1)]) (hW S E Fn U) (by omega) (fun w hw => ?_) (fun w hw => ?_) (fun w hw t ht => ?_)
        · rw [List.mem_singleton.mp hw]
          refine ⟨fun _ => ⟨a + 1, e - 1, rfl, by omega, by omega, by rw [Nat.add_sub_cancel]; exact k4, by omega, by omega, ?_, fun q h1 h2 => e6 q h1 (by omega)⟩, fun h3 => by rw [wo_mk (by decide)] at h3; exact absurd h3 (by decide)⟩
          rw [show e - 1 = e' by omega]
          exact e4
        · rw [List.mem_singleton.mp hw, wo_mk (by decide)]; decide
        · rw [List.mem_singleton.mp hw] at ht
          unfold tin at ht
          rw [wo_mk (by decide), wt_mk (by decide) (by omega)] at ht
          omega
      · by_cases k7 : kn K a = 7
        · rw [if_pos k7]
          exact (hW S E Fn U).one (by omega) (by decide)
        · rw [if_neg k7]
          by_cases k10 : kn K (a + 1) = 10
          · rw [if_pos k10]
            exact (hW S E Fn U).one (by omega) (by decide)
          · rw [if_neg k10]
            refine LV.add (V := [mk 8 a 0]) (hW S E Fn U) s1 (fun w hw => by rw [List.mem_singleton.mp hw]; exact LtW_mk (by decide) (by decide) (by decide)) (fun w hw => by rw [List.mem_singleton.mp hw, wo_mk (by decide)]; decide) (fun w hw t ht => ?_)
            rw [List.mem_singleton.mp hw] at ht
            unfold tin at ht
            rw [wo_mk (by decide), wt_mk (by decide) (by omega)] at ht
            omega
theorem LV_pit {E : EE} {Fn : FF} {U : List Int} (hK : K.length ≤ 195) (ha : a < K.length) (hP : PQw K a C) (h : LV K (a, [], C, E, Fn, U)) : LV K (pit K a C E Fn U) := by
  have bad : ∀ (q : Nat) (E' : EE), a ≤ q → LV K (skI K (K.length - q) q, [], C, E', Fn, U) := fun q E' hq => by
    have := skI_ge K (K.length - q) q
    exact h.up (by omega)
  by_cases k3 : kn K a = 3
  · rw [pit_fn k3]
    have hl := fnh_le (K := K) (a := a) ha
    split
    · next ok =>
      have hp := (fnh_par ok).1
      refine ⟨fun w hw => ?_, fun j hj hj2 => ?_, fun w hw hw2 => ?_⟩
      · rcases List.mem_append.mp hw with h1 | h1
        · exact h.1 w h1
        · rcases List.mem_cons.mp h1 with h1 | h1
          · rw [h1]
            exact ⟨fun h3 => by rw [wo_mk (by decide)] at h3; exact absurd h3 (by decide), fun _ => ⟨a + 1, _, rfl, by omega, by omega, by rw [Nat.add_sub_cancel]; exact k3⟩⟩
          · rw [List.mem_singleton.mp h1]
            exact LtW_mk (by decide) (by decide) (by decide)
      · have hlen : (C ++ [mk 2 (a + 1) (fnh K a).2.2, mk 3 (fnh K a).2.1 0]).length = C.length + 2 := by rw [List.length_append]; rfl
        change j < (C ++ [mk 2 (a + 1) (fnh K a).2.2, mk 3 (fnh K a).2.1 0]).length at hj
        rw [hlen] at hj
        have g0 : gx (C ++ [mk 2 (a + 1) (fnh K a).2.2, mk 3 (fnh K a).2.1 0]) C.length = mk 2 (a + 1) (fnh K a).2.2 := by rw [gx_app, if_neg (by omega), Nat.sub_self]; rfl
        have g1 : gx (C ++ [mk 2 (a + 1) (fnh K a).2.2, mk 3 (fnh K a).2.1 0]) (C.length + 1) = mk 3 (fnh K a).2.1 0 := by rw [gx_app, if_neg (by omega), Nat.add_sub_cancel_left]; rfl
        show (∀ i, i < j → ∀ t : Int, tin t (gx (C ++ [mk 2 (a + 1) (fnh K a).2.2, mk 3 (fnh K a).2.1 0]) i) → t < wt (gx (C ++ [mk 2 (a + 1) (fnh K a).2.2, mk 3 (fnh K a).2.1 0]) j)) ∧ ∀ q, j < q → q < (C ++ [mk 2 (a + 1) (fnh K a).2.2, mk 3 (fnh K a).2.1 0]).length → ∀ t : Int, tin t (gx (C ++ [mk 2 (a + 1) (fnh K a).2.2, mk 3 (fnh K a).2.1 0]) q) → wt (gx (C ++ [mk 2 (a + 1) (fnh K a).2.2, mk 3 (fnh K a).2.1 0]) j) ≤ t
        rw [hlen]
        by_cases c : j < C.length
        · have hj3 : wo (gx C j) = 2 := by
            have : wo (gx (C ++ [mk 2 (a + 1) (fnh K a).2.2, mk 3 (fnh K a).2.1 0]) j) = 2 := hj2
            rw [gx_app, if_pos c] at this
            exact this
          obtain ⟨a1, a2⟩ := h.2.1 j c hj3
          have b2 := h.2.2 _ (gx_mem c) hj3
          change wt (gx C j) ≤ (a : Int) at b2
          have gj : gx (C ++ [mk 2 (a + 1) (fnh K a).2.2, mk 3 (fnh K a).2.1 0]) j = gx C j := by rw [gx_app, if_pos c]
          rw [gj]
          refine ⟨fun i hi t ht => ?_, fun q hq hq2 t ht => ?_⟩
          · rw [gx_app, if_pos (by omega)] at ht
            exact a1 i hi t ht
          · by_cases c2 : q < C.length
            · rw [gx_app, if_pos c2] at ht
              exact a2 q hq c2 t ht
            · by_cases c3 : q = C.length
              · rw [c3, g0] at ht
                unfold tin at ht
                rw [wo_mk (by decide), wt_mk (by decide) (by omega)] at ht
                omega
              · rw [show q = C.length + 1 by omega, g1] at ht
                exact absurd ht (tin_no (by decide) (by decide) (by decide) (by decide) (by decide) (by decide))
        · have hj4 : j = C.length := by
            by_cases c2 : j = C.length
            · exact c2
            · exfalso
              have : wo (gx (C ++ [mk 2 (a + 1) (fnh K a).2.2, mk 3 (fnh K a).2.1 0]) j) = 2 := hj2
              rw [show j = C.length + 1 by omega, g1, wo_mk (by decide)] at this
              exact absurd this (by decide)
          subst hj4
          rw [g0, wt_mk (by decide) (by omega)]
          refine ⟨fun i hi t ht => ?_, fun q hq hq2 t ht => ?_⟩
          · rw [gx_app, if_pos hi] at ht
            have := tin_sp hP.2.1 (gx_mem hi) ht
            omega
          · rw [show q = C.length + 1 by omega, g1] at ht
            exact absurd ht (tin_no (by decide) (by decide) (by decide) (by decide) (by decide) (by decide))
      · show wt w ≤ (((fnh K a).2.1 + 1 : Nat) : Int)
        rcases List.mem_append.mp hw with h1 | h1
        · have := h.2.2 w h1 hw2
          change wt w ≤ (a : Int) at this
          omega
        · rcases List.mem_cons.mp h1 with h1 | h1
          · rw [h1, wt_mk (by decide) (by omega)]
            omega
          · rw [List.mem_singleton.mp h1, wo_mk (by decide)] at hw2
            exact absurd hw2 (by decide)
    · exact bad _ _ (by omega)
  · unfold pit
    split
    · split
      · split
        · exact h.one (by omega) (by decide)
        · exact bad _ _ (by omega)
      · exact bad _ _ (by omega)
    · exact bad a _ (Nat.le_refl _)
theorem LV_prun (hK : K.length ≤ 195) (hN : ∀ i, i < K.length → kn K i ≠ 24) : ∀ (d : Nat) (x : PS), PI K x → PV K x → LV K x → LV K (prun K d x) := by
  intro d
  induction d with
  | zero => intro x _ _ h; exact h
  | succ d ih =>
    intro x hP hV h
    rw [prun_succ]
    split
    · next e =>
      refine ih _ (PI_pstep hK hN hP e) (PV_pstep hK hV e hP.1) ?_
      obtain ⟨a, S, C, E, Fn, U⟩ := x
      cases S with
      | nil =>
        rcases e with e | e
        · exact LV_pit hK e hV.1 h
        · exact absurd rfl e
      | cons y S =>
        obtain ⟨q, st⟩ := y
        exact LV_pst hK hV.2.1 h
    · exact h
theorem Cw_lv {X : Nat → List Int} {f : Nat} (hX : ∀ r, r < 24 → Rok (X r)) (hf : f < 3) : (∀ w ∈ Cw X f, LtW (ks X f) w ∧ FnW (ks X f) w) ∧ FS (Cw X f) := by
  have h1 := ks_len hX hf
  have h2 : ∀ i, i < (ks X f).length → kn (ks X f) i ≠ 24 := fun i hi => ks_no hX hf hi
  have h3 : LV (ks X f) (prun (ks X f) 600 (0, [], [], [], [], [])) := LV_prun (by omega) h2 600 _ PI_0 PV_0 ⟨fun w hw => absurd hw (List.not_mem_nil), fun j hj => absurd hj (Nat.not_lt_zero j), fun w hw => absurd hw (List.not_mem_nil)⟩
  exact ⟨h3.1, h3.2.1⟩
end Mk0
