/-! THE WORDS OF A FUNCTION SPEAK OF TOKENS AHEAD OF ITS LAST } -/
/-- open blocks: that of a function is the outermost -/
def SSh : List (Int × Int) → Prop
  | [] => True
  | y :: r => (y.1 = 0 ↔ r = []) ∧ SSh r
def SpL (K C : List Int) (a : Nat) (e : Int × Int × Int × Int) : Prop := ∃ c : Nat, e.2.2.1 = (c : Int) ∧ c < C.length ∧ (e.2.2.2 ≠ -1 → ∃ l : Nat, e.2.2.2 = (l : Int) ∧ l < a ∧ l < K.length ∧ kn K l = 13 ∧ (∀ q, c ≤ q → q < C.length → (∀ q', c < q' → q' ≤ q → wo (gx C q') ≠ 2) → ∀ t : Int, tin t (gx C q) → t < (l : Int)) ∧ ∀ q, c < q → q < C.length → wo (gx C q) = 2 → (l : Int) < wt (gx C q))
/-- the function that is open is the last one -/
def OpL (C : List Int) (Fn : FF) : Prop := ∃ (Fn' : FF) (e : Int × Int × Int × Int) (c : Nat), Fn = Fn' ++ [e] ∧ e.2.2.2 = -1 ∧ e.2.2.1 = (c : Int) ∧ c < C.length ∧ wo (gx C c) = 2 ∧ (∀ q, c < q → q < C.length → wo (gx C q) ≠ 2) ∧ ∀ e' ∈ Fn', ∃ c' : Nat, e'.2.2.1 = (c' : Int) ∧ c' < c
def SF (K : List Int) (x : PS) : Prop := (∀ e ∈ x.2.2.2.2.1, SpL K x.2.2.1 x.1 e) ∧ SSh x.2.1 ∧ (x.2.1 ≠ [] → OpL x.2.2.1 x.2.2.2.2.1)
section Ml1
variable {K C V C' : List Int} {a a' : Nat} {S S' : List (Int × Int)} {E E' : EE} {Fn Fn' : FF} {U U' : List Int} {e : Int × Int × Int × Int}
theorem SpL.cg (h : SpL K C a e) (ha : a ≤ a') (hl : C'.length = C.length) (hc : ∀ j, wo (gx C' j) = wo (gx C j) ∧ wt (gx C' j) = wt (gx C j) ∧ ∀ t : Int, tin t (gx C' j) ↔ tin t (gx C j)) : SpL K C' a' e := by
  obtain ⟨c, c1, c2, c3⟩ := h
  refine ⟨c, c1, by omega, fun hn => ?_⟩
  obtain ⟨l, l1, l2, l3, l4, l5, l6⟩ := c3 hn
  refine ⟨l, l1, by omega, l3, l4, fun q h1 h2 h3 t ht => ?_, fun q h1 h2 h3 => ?_⟩
  · exact l5 q h1 (by omega) (fun q' a1 a2 => by rw [← (hc q').1]; exact h3 q' a1 a2) t (((hc q).2.2 t).mp ht)
  · rw [(hc q).2.1]
    exact l6 q h1 (by omega) (by rw [← (hc q).1]; exact h3)
theorem OpL.cg (h : OpL C Fn) (hl : C'.length = C.length) (hc : ∀ j, wo (gx C' j) = wo (gx C j)) : OpL C' Fn := by
  obtain ⟨Fn', e, c, h1, h2, h3, h4, h5, h6, h7⟩ := h
  exact ⟨Fn', e, c, h1, h2, h3, by omega, by rw [hc]; exact h5, fun q a b => by rw [hc]; exact h6 q a (by omega), h7⟩
theorem OpL.add (h : OpL C Fn) (h2 : ∀ w ∈ V, wo w ≠ 2) : OpL (C ++ V) Fn := by
  obtain ⟨Fn', e, c, e1, e2, e3, e4, e5, e6, e7⟩ := h
  refine ⟨Fn', e, c, e1, e2, e3, by rw [List.length_append]; omega, by rw [gx_app, if_pos e4]; exact e5, fun q h3 h4 => ?_, e7⟩
  rw [List.length_append] at h4
  rw [gx_app]
  by_cases c1 : q < C.length
  · rw [if_pos c1]; exact e6 q h3 c1
  · rw [if_neg c1]; exact h2 _ (gx_mem (by omega))
/-- words come to an open function -/
theorem SpL.add (h : SpL K C a e) (ha : a ≤ a') (h2 : ∀ w ∈ V, wo w ≠ 2) (h3 : e.2.2.2 = -1 ∨ (∃ c2, (∃ c : Nat, e.2.2.1 = (c : Int) ∧ c < c2) ∧ c2 < C.length ∧ wo (gx C c2) = 2) ∨ ∀ w ∈ V, ∀ t : Int, ¬ tin t w) : SpL K (C ++ V) a' e := by
  obtain ⟨c, c1, c2, c3⟩ := h
  refine ⟨c, c1, by rw [List.length_append]; omega, fun hn => ?_⟩
  obtain ⟨l, l1, l2, l3, l4, l5, l6⟩ := c3 hn
  refine ⟨l, l1, by omega, l3, l4, fun q h4 h5 h6 t ht => ?_, fun q h4 h5 h6 => ?_⟩
  · rw [List.length_append] at h5
    by_cases c4 : q < C.length
    · rw [gx_app, if_pos c4] at ht
      refine l5 q h4 c4 (fun q' a1 a2 => ?_) t ht
      have := h6 q' a1 a2
      rw [gx_app, if_pos (by omega)] at this
      exact this
    · rcases h3 with h3 | ⟨c5, ⟨c6, h7, h8⟩, h9, h10⟩ | h3
      · exact absurd h3 hn
      · exfalso
        have := h6 c5 (by omega) (by omega)
        rw [gx_app, if_pos h9] at this
        exact this h10
      · rw [gx_app, if_neg c4] at ht
        exact absurd ht (h3 _ (gx_mem (by omega)) t)
  · rw [List.length_append] at h5
    by_cases c4 : q < C.length
    · rw [gx_app, if_pos c4] at h6 ⊢
      exact l6 q h4 c4 h6
    · rw [gx_app, if_neg c4] at h6
      exact absurd h6 (h2 _ (gx_mem (by omega)))
theorem SF.add (h : SF K (a, S, C, E, Fn, U)) (hS : S ≠ []) (ha : a ≤ a') (hS' : SSh S') (h2 : ∀ w ∈ V, wo w ≠ 2) : SF K (a', S', C ++ V, E', Fn, U') := by
  obtain ⟨h1, -, h3⟩ := h
  have ho := h3 hS
  refine ⟨fun e he => ?_, hS', fun _ => OpL.add ho h2⟩
  obtain ⟨Fn', e0, c, e1, e2, e3, e4, e5, e6, e7⟩ := ho
  change Fn = Fn' ++ [e0] at e1
  change e ∈ Fn at he
  refine SpL.add (h1 e he) ha h2 ?_
  rw [e1] at he
  rcases List.mem_append.mp he with hm | hm
  · exact Or.inr (Or.inl ⟨c, e7 e hm, e4, e5⟩)
  · rw [List.mem_singleton.mp hm]; exact Or.inl e2
theorem SF.one {o t x : Nat} (h : SF K (a, S, C, E, Fn, U)) (hS : S ≠ []) (ha : a ≤ a') (hS' : SSh S') (ho : o < 256 ∧ o ≠ 2) : SF K (a', S', C ++ [mk o t x], E', Fn, U') := h.add hS ha hS' (fun w hw => by rw [List.mem_singleton.mp hw, wo_mk ho.1]; omega)
theorem SF.up (h : SF K (a, S, C, E, Fn, U)) (ha : a ≤ a') (hS' : SSh S') (hs : S' ≠ [] → S ≠ []) : SF K (a', S', C, E', Fn, U') :=
  ⟨fun e he => (h.1 e he).cg ha rfl (fun _ => ⟨rfl, rfl, fun _ => Iff.rfl⟩), hS', fun hn => h.2.2 (hs hn)⟩
theorem SF.am {i p : Nat} (h : SF K (a, S, C, E, Fn, U)) (hj : jp C i) (hS' : SSh S') (hs : S' ≠ [] → S ≠ []) : SF K (a, S', aim C (i : Int) p, E', Fn, U') := by
  have hl : (aim C (i : Int) p).length = C.length := by rw [aim_set hj.1, List.length_set]
  exact ⟨fun e he => (h.1 e he).cg (Nat.le_refl _) hl (fun j => ⟨(tin_aim (t := 0) hj).1, (tin_aim (t := 0) hj).2.1, fun t => (tin_aim hj).2.2⟩), hS', fun hn => OpL.cg (h.2.2 (hs hn)) hl (fun j => (tin_aim (t := 0) hj).1)⟩
theorem SF_pel {q st : Int} (h : SF K (a, S, C, E, Fn, U)) (hq : q = 2 → S ≠ []) (hst : q = 2 → ∃ i : Nat, st = (i : Int) ∧ jp C i) : SF K (pel K a q st S C E Fn U) := by
  unfold pel
  split
  · next e =>
    obtain ⟨i, rfl, hj⟩ := hst e.1
    have hS := hq e.1
    have sh := h.2.1
    split
    · have h1 := h.one (o := 12) (t := a) (x := 0) (a' := a) (S' := S) (E' := E) (U' := U) hS (Nat.le_refl _) sh (by decide)
      have h2 := h1.am (i := i) (p := C.length + 1) (S' := S) (E' := E) (U' := U) hj.app sh (fun h => h)
      exact h2.one hS (by omega) ⟨⟨fun h => absurd (show (3 : Int) = 0 from h) (by decide), fun h => absurd h hS⟩, sh⟩ (by decide)
    · have := skS_ge K (K.length - (a + 1)) (a + 1)
      exact h.up (by omega) sh (fun h => h)
  · exact h
theorem setL_app {v : Int} : setLast (Fn ++ [e]) v = Fn ++ [(e.1, e.2.1, e.2.2.1, v)] := by
  unfold setLast
  rw [List.getLast?_concat, List.dropLast_concat]
theorem SF_pcb {cl1 : Bool} {q st : Int} (hcl : cl1 = true → kn K a = 13) (hP : PQw K a C) (hV : PSo ((q, st) :: S) C) (h : SF K (a, (q, st) :: S, C, E, Fn, U)) : SF K (pcb K a cl1 q st S C E Fn U) := by
  rw [pcb_pc2]
  have hge : a ≤ (if cl1 = true then a + 1 else a) := by split <;> omega
  have hne : ((q, st) :: S : List (Int × Int)) ≠ [] := List.cons_ne_nil _ _
  obtain ⟨sh0, sh⟩ : (q = 0 ↔ S = []) ∧ SSh S := h.2.1
  have k2 : PSo ((q, st) :: S) (C ++ [mk 4 a (if cl1 = true then 1 else 0)]) := hV.app
  have h2 : SF K (a, (q, st) :: S, C ++ [mk 4 a (if cl1 = true then 1 else 0)], E, Fn, U) := h.one hne (Nat.le_refl _) h.2.1 (by decide)
  have ht2 : ∀ q', q' < (C ++ [mk 4 a (if cl1 = true then 1 else 0)]).length → ∀ t : Int, tin t (gx (C ++ [mk 4 a (if cl1 = true then 1 else 0)]) q') → t < (a : Int) := fun q' hq' t ht => by
    rw [List.length_append, List.length_singleton] at hq'
    rw [gx_app] at ht
    by_cases c : q' < C.length
    · rw [if_pos c] at ht
      exact (tin_sp hP.2.1 (gx_mem c) ht).2
    · rw [if_neg c, show q' - C.length = 0 by omega] at ht
      exact absurd ht (tin_no (by decide) (by decide) (by decide) (by decide) (by decide) (by decide))
  generalize C ++ [mk 4 a (if cl1 = true then 1 else 0)] = C2 at k2 h2 ht2
  generalize (if cl1 = true then E else E ++ [((a : Int), -1, -1)]) = E2
  unfold pc2
  split
  · next e0 =>
    obtain ⟨Fn', e, c, e1, e2, e3, e4, e5, e6, e7⟩ := h2.2.2 hne
    change Fn = Fn' ++ [e] at e1
    change c < C2.length at e4
    have hS0 : S = [] := sh0.mp e0
    have h5 := h2.one (o := 5) (t := 0) (x := 0) (a' := (if cl1 = true then a + 1 else a)) (S' := S) (E' := E2) (U' := U) hne hge sh (by decide)
    refine SF_pel (C := C2 ++ [mk 5 0 0]) ⟨fun e' he' => ?_, sh, fun hn => absurd hS0 hn⟩ (fun h => by omega) (fun h => by omega)
    rw [e1] at he' h5
    have e8 : setLast (Fn' ++ [e]) (if cl1 = true then (a : Int) else -1) = Fn' ++ [(e.1, e.2.1, e.2.2.1, (if cl1 = true then (a : Int) else -1))] := setL_app
    change e' ∈ setLast (Fn' ++ [e]) (if cl1 = true then (a : Int) else -1) at he'
    rw [e8] at he'
    rcases List.mem_append.mp he' with hm | hm
    · exact h5.1 e' (List.mem_append_left _ hm)
    · rw [List.mem_singleton.mp hm]
      have hlen : (C2 ++ [mk 5 0 0]).length = C2.length + 1 := by rw [List.length_append]; rfl
      refine ⟨c, e3, by show c < (C2 ++ [mk 5 0 0]).length; omega, fun hn => ?_⟩
      by_cases hc : cl1 = true
      · refine ⟨a, if_pos hc, by show a < (if cl1 = true then a + 1 else a); rw [if_pos hc]; omega, kn_lt (by rw [hcl hc]; decide), hcl hc, fun q' a1 a2 a3 t ht => ?_, fun q' a1 a2 a3 => ?_⟩
        · change q' < (C2 ++ [mk 5 0 0]).length at a2
          change tin t (gx (C2 ++ [mk 5 0 0]) q') at ht
          rw [gx_app] at ht
          by_cases c5 : q' < C2.length
          · rw [if_pos c5] at ht
            exact ht2 q' c5 t ht
          · rw [if_neg c5, show q' - C2.length = 0 by omega] at ht
            exact absurd ht (tin_no (by decide) (by decide) (by decide) (by decide) (by decide) (by decide))
        · exfalso
          change q' < (C2 ++ [mk 5 0 0]).length at a2
          change wo (gx (C2 ++ [mk 5 0 0]) q') = 2 at a3
          rw [gx_app] at a3
          by_cases c5 : q' < C2.length
          · rw [if_pos c5] at a3
            exact e6 q' a1 c5 a3
          · rw [if_neg c5, show q' - C2.length = 0 by omega] at a3
            have : wo (mk 5 0 0) = 2 := a3
            rw [wo_mk (by decide)] at this
            exact absurd this (by decide)
      · exact absurd (if_neg hc) hn
  · next e0 =>
    have hS0 : S ≠ [] := fun h => e0 (sh0.mpr h)
    split
    · exact SF_pel (h2.up hge sh (fun _ => hne)) (fun h => by omega) (fun h => by omega)
    · rcases k2 (q, st) (List.mem_cons_self) with hq | ⟨i, e, hj⟩
      · change q = 0 ∨ q = 1 at hq
        omega
      · change st = (i : Int) at e
        subst e
        have h3 := h2.am (i := i) (p := C2.length) (S' := S) (E' := E2) (U' := U) hj sh (fun _ => hne)
        exact SF_pel (h3.up hge sh (fun h => h)) (fun _ => hS0) (fun _ => ⟨i, rfl, hj.aim hj.1⟩)
theorem SF_pst {q st : Int} (hK : K.length ≤ 195) (hP : PQw K a C) (hV : PSo ((q, st) :: S) C) (h : SF K (a, (q, st) :: S, C, E, Fn, U)) : SF K (pst K a q st S C E Fn U) := by
  have hne : ((q, st) :: S : List (Int × Int)) ≠ [] := List.cons_ne_nil _ _
  have sh := h.2.1
  rw [pst_psx]
  by_cases h13 : kn K a = 13
  · rw [if_pos h13]
    exact SF_pcb (fun _ => h13) hP hV h
  rw [if_neg h13]
  by_cases hb : bgn (kn K a) = true
  · rw [if_pos hb]
    exact SF_pcb (fun h => absurd h (by decide)) hP hV h
  rw [if_neg hb]
  have hl : a < K.length := kn_lt (fun e => hb (by rw [e]; decide))
  have psh : ∀ x y : Int, x ≠ 0 → SSh ((x, y) :: (q, st) :: S) := fun x y hx => ⟨⟨fun h => absurd h hx, fun h => absurd h hne⟩, sh⟩
  by_cases h12 : kn K a = 12
  · rw [if_pos h12]
    have h1 := h.one (o := 6) (t := a) (x := 0) (a' := a) (S' := (q, st) :: S) (E' := E) (U' := U) hne (Nat.le_refl _) sh (by decide)
    have h2 := h1.one (o := 3) (t := a) (x := 0) (a' := a + 1) (S' := (1, -1) :: (q, st) :: S) (E' := E) (U' := U) hne (by omega) (psh _ _ (by decide)) (by decide)
    rw [List.append_assoc] at h2
    exact h2
  rw [if_neg h12]
  have so := SO_sth (W := C ++ [mk 6 a 0]) hK hl
  have hd := sth_D (C := C) hK hl
  revert so hd
  generalize sth K a (C ++ [mk 6 a 0]) = x
  obtain ⟨ok, e, W⟩ := x
  intro so hd
  have s1 : a ≤ e := so.1
  unfold psx
  cases ok with
  | false =>
    rw [if_pos rfl]
    have := skS_ge K (K.length - e) e
    exact h.one hne (show a ≤ skS K (K.length - e) e by omega) sh (by decide)
  | true =>
    rw [if_neg (show ¬ (true : Bool) = false by decide)]
    obtain ⟨D, d1, dw, -, -, -⟩ := hd rfl
    change W = C ++ mk 6 a 0 :: D at d1
    have hW : ∀ S' E' U', SSh S' → SF K (a, S', W, E', Fn, U') := fun S' E' U' hs => by
      have h2 := h.add (V := mk 6 a 0 :: D) (a' := a) (S' := S') (E' := E') (U' := U') hne (Nat.le_refl _) hs (fun w hw => by
        rcases List.mem_cons.mp hw with hw | hw
        · rw [hw, wo_mk (by decide)]; decide
        · obtain ⟨o, t, e, e1, -, e2⟩ := dw w hw
          rw [e1, wo_mk (by omega)]
          omega)
      rw [d1]
      exact h2
    split
    · have h1 := (hW ((q, st) :: S) E U sh).one (o := 11) (t := a) (x := 0) (a' := a) (S' := (q, st) :: S) (E' := E) (U' := U) hne (Nat.le_refl _) sh (by decide)
      have h2 := h1.one (o := 3) (t := e) (x := 0) (a' := e + 1) (S' := (2, (W.length : Int)) :: (q, st) :: S) (E' := E) (U' := U) hne (by omega) (psh _ _ (by decide)) (by decide)
      rw [List.append_assoc] at h2
      exact h2
    · split
      · exact (hW ((q, st) :: S) E U sh).one hne (by omega) sh (by decide)
      · exact (hW ((q, st) :: S) E U sh).one hne (by omega) sh (by split <;> (try split) <;> decide)
theorem SF_pit (hK : K.length ≤ 195) (ha : a < K.length) (hP : PQw K a C) (h : SF K (a, [], C, E, Fn, U)) : SF K (pit K a C E Fn U) := by
  have bad : ∀ (q : Nat) (E' : EE), a ≤ q → SF K (skI K (K.length - q) q, [], C, E', Fn, U) := fun q E' hq => by
    have := skI_ge K (K.length - q) q
    exact h.up (by omega) trivial (fun h => h)
  by_cases k3 : kn K a = 3
  · rw [pit_fn k3]
    have hl := fnh_le (K := K) (a := a) ha
    split
    · next ok =>
      have hlen : (C ++ [mk 2 (a + 1) (fnh K a).2.2, mk 3 (fnh K a).2.1 0]).length = C.length + 2 := by rw [List.length_append]; rfl
      have hge := hl.2.1
      have g0 : gx (C ++ [mk 2 (a + 1) (fnh K a).2.2, mk 3 (fnh K a).2.1 0]) C.length = mk 2 (a + 1) (fnh K a).2.2 := by rw [gx_app, if_neg (by omega), Nat.sub_self]; rfl
      have g1 : gx (C ++ [mk 2 (a + 1) (fnh K a).2.2, mk 3 (fnh K a).2.1 0]) (C.length + 1) = mk 3 (fnh K a).2.1 0 := by rw [gx_app, if_neg (by omega), Nat.add_sub_cancel_left]; rfl
      have w3 : ∀ q, C.length < q → q < C.length + 2 → wo (gx (C ++ [mk 2 (a + 1) (fnh K a).2.2, mk 3 (fnh K a).2.1 0]) q) ≠ 2 := fun q h1 h2 => by
        rw [show q = C.length + 1 by omega, g1, wo_mk (by decide)]
        decide
      generalize hCV : C ++ [mk 2 (a + 1) (fnh K a).2.2, mk 3 (fnh K a).2.1 0] = CV at hlen g0 g1 w3
      have gC : ∀ q, q < C.length → gx CV q = gx C q := fun q hq => by rw [← hCV, gx_app, if_pos hq]
      refine ⟨fun e he => ?_, ⟨⟨fun _ => rfl, fun _ => rfl⟩, trivial⟩, fun _ => ⟨Fn, _, C.length, rfl, rfl, rfl, by show C.length < CV.length; omega, by show wo (gx CV C.length) = 2; rw [g0]; exact wo_mk (by decide), fun q h1 h2 => w3 q h1 (by change q < CV.length at h2; omega), fun e' he' => ?_⟩⟩
      · show SpL K CV ((fnh K a).2.1 + 1) e
        rcases List.mem_append.mp he with hm | hm
        · obtain ⟨c, c1, c2, c3⟩ := h.1 e hm
          change c < C.length at c2
          refine ⟨c, c1, by omega, fun hn => ?_⟩
          obtain ⟨l, l1, l2, l3, l4, l5, l6⟩ := c3 hn
          change l < a at l2
          refine ⟨l, l1, by omega, l3, l4, fun q a1 a2 a3 t ht => ?_, fun q a1 a2 a3 => ?_⟩
          · by_cases c4 : q < C.length
            · rw [gC q c4] at ht
              exact l5 q a1 c4 (fun q' b1 b2 => by have := a3 q' b1 b2; rw [gC q' (by omega)] at this; exact this) t ht
            · exfalso
              have := a3 C.length c2 (by omega)
              rw [g0, wo_mk (by decide)] at this
              exact this rfl
          · by_cases c4 : q < C.length
            · rw [gC q c4] at a3 ⊢
              exact l6 q a1 c4 a3
            · by_cases c5 : q = C.length
              · rw [c5, g0, wt_mk (by decide) (by omega)]
                omega
              · exact absurd a3 (w3 q (by omega) (by omega))
        · rw [List.mem_singleton.mp hm]
          exact ⟨C.length, rfl, by omega, fun h => absurd rfl h⟩
      · obtain ⟨c, c1, c2, -⟩ := h.1 e' he'
        exact ⟨c, c1, c2⟩
    · exact bad _ _ (by omega)
  · unfold pit
    split
    · split
      · split
        · refine ⟨fun e he => (h.1 e he).add (show a ≤ a + 3 by omega) (fun w hw => by rw [List.mem_singleton.mp hw, wo_mk (by decide)]; decide) (Or.inr (Or.inr (fun w hw t => by rw [List.mem_singleton.mp hw]; exact tin_no (by decide) (by decide) (by decide) (by decide) (by decide) (by decide)))), trivial, fun hn => absurd rfl hn⟩
        · exact bad _ _ (by omega)
      · exact bad _ _ (by omega)
    · exact bad a _ (Nat.le_refl _)
theorem SF_prun (hK : K.length ≤ 195) (hN : ∀ i, i < K.length → kn K i ≠ 24) : ∀ (d : Nat) (x : PS), PI K x → PV K x → SF K x → SF K (prun K d x) := by
  intro d
  induction d with
  | zero => intro x _ _ h; exact h
  | succ d ih =>
    intro x hP hV h
    rw [prun_succ]
    split
    · next e =>
      refine ih _ (PI_pstep hK hN hP e) (PV_pstep hK hV e hP.1) ?_
      obtain ⟨a, S, C, E, Fn, U⟩ := x
      cases S with
      | nil =>
        rcases e with e | e
        · exact SF_pit hK e hV.1 h
        · exact absurd rfl e
      | cons y S =>
        obtain ⟨q, st⟩ := y
        exact SF_pst hK hV.1 hV.2.1 h
    · exact h
/-- a function that is closed -/
theorem Fw_span {X : Nat → List Int} {f : Nat} (hX : ∀ r, r < 24 → Rok (X r)) (hf : f < 3) (he : e ∈ Fw X f) : ∃ p n c : Nat, 1 ≤ p ∧ e.1 = (p : Int) ∧ e.2.1 = (n : Int) ∧ e.2.2.1 = (c : Int) ∧ c < (Cw X f).length ∧ gx (Cw X f) c = mk 2 p n ∧ p < (toks X f).length ∧ kn (ks X f) p = 0 ∧ kn (ks X f) (p - 1) = 3 ∧ (e.2.2.2 ≠ -1 → ∃ l : Nat, e.2.2.2 = (l : Int) ∧ p < l ∧ l < (toks X f).length ∧ kn (ks X f) l = 13 ∧ (∀ q, c ≤ q → q < (Cw X f).length → (∀ q', c < q' → q' ≤ q → wo (gx (Cw X f) q') ≠ 2) → ∀ t : Int, tin t (gx (Cw X f) q) → t < (l : Int)) ∧ ∀ q, c < q → q < (Cw X f).length → wo (gx (Cw X f) q) = 2 → (l : Int) < wt (gx (Cw X f) q)) := by
  have h1 := ks_len hX hf
  have h2 : ∀ i, i < (ks X f).length → kn (ks X f) i ≠ 24 := fun i hi => ks_no hX hf hi
  have h3 : SF (ks X f) (prun (ks X f) 600 (0, [], [], [], [], [])) := SF_prun (by omega) h2 600 _ PI_0 PV_0 ⟨fun e he => absurd he (List.not_mem_nil), trivial, fun h => absurd rfl h⟩
  obtain ⟨p, n, c, hp, e1, e2, e3, e4, e5, e6⟩ := Fw_tok hX hf he
  obtain ⟨c', c1, c2, c3⟩ := h3.1 e he
  have : c' = c := by omega
  subst this
  have hk : kn (ks X f) p = 0 := e6 0 (Nat.zero_le _)
  obtain ⟨p', n', d1, d2, d3, d4⟩ := ((Cw_lv hX hf).1 _ (gx_mem e4)).2 (by rw [e5]; exact wo_mk (by decide))
  have hpp : p' = p := by
    have := congrArg wt (e5.symm.trans d1)
    rw [wt_mk (by decide) hp, wt_mk (by decide) d2] at this
    omega
  subst hpp
  refine ⟨p', n, c', d3, e1, e2, e3, e4, e5, kn_tok (by rw [hk]; decide), hk, d4, fun hn => ?_⟩
  obtain ⟨l, l1, l2, l3, l4, l5, l6⟩ := c3 hn
  rw [ks_len'] at l3
  have hpl := l5 c' (Nat.le_refl _) e4 (fun q' a b => by omega) (p' : Int) (show tin (p' : Int) (gx (Cw X f) c') from by
    rw [e5]
    exact Or.inl ⟨wo_mk (by decide), by rw [wt_mk (by decide) hp]; omega, by rw [wt_mk (by decide) hp, we_mk (by decide) hp]; omega, by rw [wt_mk (by decide) hp]; omega⟩)
  exact ⟨l, l1, by omega, l3, l4, l5, l6⟩
end Ml1
