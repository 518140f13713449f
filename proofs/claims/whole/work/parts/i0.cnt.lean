/-! COMPLETIONS: how many names are declared; the ends of blocks -/
def gy (w : Int) : Nat := if wo w = 7 then 2 else if wo w = 2 then 2 * (we w).toNat else 0
def GYv (x : PS) : Prop := sm gy x.2.2.1 ≤ x.1
/-- no end of a block, told at END -/
def p4 (k : Nat) (w : Int) : Prop := wo w = 4 → we w = 0 → wt w < (k : Int)
section Mi0
variable {K : List Int} {X : Nat → List Int} {f : Nat}
theorem gy_mk {o t e : Nat} (h : o < 256) (h2 : o ≠ 2) (h7 : o ≠ 7) : gy (mk o t e) = 0 := by
  unfold gy
  rw [wo_mk h, if_neg (by omega), if_neg (by omega)]
theorem gy_7 {t e : Nat} : gy (mk 7 t e) = 2 := by
  unfold gy
  rw [wo_mk (by decide), if_pos (by decide)]
theorem gy_2 {t e : Nat} (h : t < 256) : gy (mk 2 t e) = 2 * e := by
  unfold gy
  rw [wo_mk (by decide), if_neg (by decide), if_pos (by decide), we_mk (by decide) h, Int.toNat_natCast]
theorem gy_wx : ∀ D : List Int, (∀ w ∈ D, WX K w) → sm gy D = 0
  | [], _ => rfl
  | w :: D, h => by
    obtain ⟨o, t, e, rfl, -, h2⟩ := h w (List.mem_cons_self)
    show gy (mk o t e) + sm gy D = 0
    rw [gy_mk (by omega) (by omega) (by omega), gy_wx D (fun w hw => h w (List.mem_cons_of_mem _ hw))]
theorem gy_aim {C : List Int} {i p : Nat} (hj : jp C i) : sm gy (aim C (i : Int) p) = sm gy C := by
  rw [aim_set hj.1]
  refine sm_set C i hj.1 ?_
  have h := hj.2
  have e : wo (gx C i % 65536 + 65536 * (p : Int)) = wo (gx C i) := by unfold wo; omega
  unfold gy
  rw [e, if_neg (by omega), if_neg (by omega), if_neg (by omega), if_neg (by omega)]
theorem GY_pel {a : Nat} {q st : Int} {S : List (Int × Int)} {C : List Int} {E : EE} {Fn : FF} {U : List Int} (h : sm gy C ≤ a) (hst : q = 2 → ∃ i : Nat, st = (i : Int) ∧ jp C i) : GYv (pel K a q st S C E Fn U) := by
  unfold GYv pel
  split
  · next e =>
    obtain ⟨i, rfl, hj⟩ := hst e.1
    split
    · show sm gy (aim (C ++ [mk 12 a 0]) (i : Int) (C.length + 1) ++ [mk 3 (a + 1) 0]) ≤ a + 2
      rw [sm_app, gy_aim hj.app, sm_app]
      show sm gy C + (gy (mk 12 a 0) + 0) + (gy (mk 3 (a + 1) 0) + 0) ≤ a + 2
      rw [gy_mk (by decide) (by decide) (by decide), gy_mk (by decide) (by decide) (by decide)]
      omega
    · show sm gy C ≤ skS K (K.length - (a + 1)) (a + 1)
      have := skS_ge K (K.length - (a + 1)) (a + 1)
      omega
  · exact h
theorem GY_pcb {a : Nat} {cl1 : Bool} {q st : Int} {S : List (Int × Int)} {C : List Int} {E : EE} {Fn : FF} {U : List Int} (hV : PSo ((q, st) :: S) C) (h : sm gy C ≤ a) : GYv (pcb K a cl1 q st S C E Fn U) := by
  rw [pcb_pc2]
  have hge : a ≤ (if cl1 = true then a + 1 else a) := by split <;> omega
  generalize (if cl1 = true then a + 1 else a) = a2 at hge
  have k2 : PSo ((q, st) :: S) (C ++ [mk 4 a (if cl1 = true then 1 else 0)]) := hV.app
  have h2 : sm gy (C ++ [mk 4 a (if cl1 = true then 1 else 0)]) ≤ a2 := by
    rw [sm_app]
    show sm gy C + (gy (mk 4 a _) + 0) ≤ a2
    rw [gy_mk (by decide) (by decide) (by decide)]
    omega
  generalize C ++ [mk 4 a (if cl1 = true then 1 else 0)] = C2 at k2 h2
  unfold pc2
  split
  · refine GY_pel ?_ (fun h => by omega)
    rw [sm_app]
    show sm gy C2 + (gy (mk 5 0 0) + 0) ≤ a2
    rw [gy_mk (by decide) (by decide) (by decide)]
    omega
  · split
    · exact GY_pel h2 (fun h => by omega)
    · rcases k2 (q, st) (List.mem_cons_self) with hq | ⟨i, e, hj⟩
      · change q = 0 ∨ q = 1 at hq
        omega
      · change st = (i : Int) at e
        subst e
        exact GY_pel (by rw [gy_aim hj]; exact h2) (fun _ => ⟨i, rfl, hj.aim hj.1⟩)
theorem GY_pst {a : Nat} {q st : Int} {S : List (Int × Int)} {C : List Int} {E : EE} {Fn : FF} {U : List Int} (hK : K.length ≤ 195) (hV : PSo ((q, st) :: S) C) (h : sm gy C ≤ a) : GYv (pst K a q st S C E Fn U) := by
  rw [pst_psx]
  by_cases h13 : kn K a = 13
  · rw [if_pos h13]
    exact GY_pcb hV h
  rw [if_neg h13]
  by_cases hb : bgn (kn K a) = true
  · rw [if_pos hb]
    exact GY_pcb hV h
  rw [if_neg hb]
  have hl : a < K.length := kn_lt (fun e => hb (by rw [e]; decide))
  by_cases h12 : kn K a = 12
  · rw [if_pos h12]
    show sm gy (C ++ [mk 6 a 0, mk 3 a 0]) ≤ a + 1
    rw [sm_app]
    show sm gy C + (gy (mk 6 a 0) + (gy (mk 3 a 0) + 0)) ≤ a + 1
    rw [gy_mk (by decide) (by decide) (by decide), gy_mk (by decide) (by decide) (by decide)]
    omega
  rw [if_neg h12]
  have so := SO_sth (W := C ++ [mk 6 a 0]) hK hl
  have hd := sth_D (C := C) hK hl
  revert so hd
  generalize sth K a (C ++ [mk 6 a 0]) = x
  obtain ⟨ok, e, V⟩ := x
  intro so hd
  have s1 : a ≤ e := so.1
  unfold psx
  cases ok with
  | false =>
    rw [if_pos rfl]
    show sm gy (C ++ [mk 13 a 0]) ≤ skS K (K.length - e) e
    have := skS_ge K (K.length - e) e
    rw [sm_app]
    show sm gy C + (gy (mk 13 a 0) + 0) ≤ _
    rw [gy_mk (by decide) (by decide) (by decide)]
    omega
  | true =>
    rw [if_neg (show ¬ (true : Bool) = false by decide)]
    obtain ⟨D, d1, dw, ⟨-, d2⟩, -⟩ := hd rfl
    change V = C ++ mk 6 a 0 :: D at d1
    change (if kn K a = 4 then a + 2 else if kn K a = 0 ∧ kn K (a + 1) ≠ 10 then a + 1 else a) ≤ e at d2
    have hVb : sm gy V = sm gy C := by
      rw [d1, sm_app]
      show sm gy C + (gy (mk 6 a 0) + sm gy D) = sm gy C
      rw [gy_mk (by decide) (by decide) (by decide), gy_wx D dw]
      omega
    split
    · show sm gy (V ++ [mk 11 a 0, mk 3 e 0]) ≤ e + 1
      rw [sm_app]
      show sm gy V + (gy (mk 11 a 0) + (gy (mk 3 e 0) + 0)) ≤ e + 1
      rw [gy_mk (by decide) (by decide) (by decide), gy_mk (by decide) (by decide) (by decide)]
      omega
    · split
      · next k4 =>
        rw [if_pos k4] at d2
        show sm gy (V ++ [mk 7 (a + 1) (e - 1)]) ≤ e
        rw [sm_app]
        show sm gy V + (gy (mk 7 (a + 1) (e - 1)) + 0) ≤ e
        rw [gy_7]
        omega
      · have ap : ∀ (o t q : Nat), (o < 256 ∧ o ≠ 2 ∧ o ≠ 7) → sm gy (V ++ [mk o t q]) ≤ e := fun o t q ho => by
          rw [sm_app]
          show sm gy V + (gy (mk o t q) + 0) ≤ e
          rw [gy_mk ho.1 ho.2.1 ho.2.2]
          omega
        exact ap _ _ _ (by split <;> (try split) <;> decide)
theorem GY_pstep {x : PS} (hK : K.length ≤ 195) (hV : PV K x) (h1 : x.1 < K.length ∨ x.2.1 ≠ []) (h : GYv x) : GYv (pstep K x) := by
  obtain ⟨a, S, C, E, Fn, U⟩ := x
  cases S with
  | nil =>
    rcases h1 with e | e
    · change sm gy C ≤ a at h
      change a < K.length at e
      show GYv (pit K a C E Fn U)
      have bad : ∀ (q : Nat) (E' : EE), a ≤ q → GYv (skI K (K.length - q) q, [], C, E', Fn, U) := fun q E' hq => by
        show sm gy C ≤ skI K (K.length - q) q
        have := skI_ge K (K.length - q) q
        omega
      by_cases k3 : kn K a = 3
      · rw [pit_fn k3]
        have hl := fnh_le (K := K) (a := a) e
        split
        · next ok =>
          have hp := (fnh_par ok).1
          show sm gy (C ++ [mk 2 (a + 1) (fnh K a).2.2, mk 3 (fnh K a).2.1 0]) ≤ (fnh K a).2.1 + 1
          rw [sm_app]
          show sm gy C + (gy (mk 2 (a + 1) (fnh K a).2.2) + (gy (mk 3 (fnh K a).2.1 0) + 0)) ≤ _
          rw [gy_2 (by omega), gy_mk (by decide) (by decide) (by decide)]
          omega
        · exact bad _ _ (by omega)
      · unfold pit
        split
        · split
          · split
            · show sm gy (C ++ [mk 1 (a + 1) 0]) ≤ a + 3
              rw [sm_app]
              show sm gy C + (gy (mk 1 (a + 1) 0) + 0) ≤ a + 3
              rw [gy_mk (by decide) (by decide) (by decide)]
              omega
            · exact bad _ _ (by omega)
          · exact bad _ _ (by omega)
        · exact bad a _ (Nat.le_refl _)
    · exact absurd rfl e
  | cons y S =>
    obtain ⟨q, st⟩ := y
    exact GY_pst hK hV.2.1 h
/-! ends of blocks -/
theorem p4_mk {k o t e : Nat} (h : o < 256) (h4 : o ≠ 4) : p4 k (mk o t e) := fun h1 => by rw [wo_mk h] at h1; omega
theorem p4_wx {k : Nat} {w : Int} (h : WX K w) : p4 k w := by
  obtain ⟨o, t, e, rfl, -, h2⟩ := h
  exact p4_mk (by omega) (by omega)
theorem mst_mem {C : List Int} {v : Int} : ∀ (i : Nat) (w : Int), w ∈ C.set i v → w ∈ C ∨ w = v := by
  induction C with
  | nil => intro i w h; exact Or.inl h
  | cons c C ih =>
    intro i w h
    cases i with
    | zero =>
      rcases List.mem_cons.mp (show w ∈ v :: C from h) with h | h
      · exact Or.inr h
      · exact Or.inl (List.mem_cons_of_mem _ h)
    | succ i =>
      rcases List.mem_cons.mp (show w ∈ c :: C.set i v from h) with h | h
      · exact Or.inl (h ▸ List.mem_cons_self)
      · rcases ih i w h with h | h
        · exact Or.inl (List.mem_cons_of_mem _ h)
        · exact Or.inr h
def P4 (k : Nat) (C : List Int) : Prop := ∀ w ∈ C, p4 k w
theorem P4.app {k : Nat} {C V : List Int} (h : P4 k C) (hV : P4 k V) : P4 k (C ++ V) := fun w hw => (List.mem_append.mp hw).elim (h w) (hV w)
theorem P4.one {k o t e : Nat} (h : o < 256) (h4 : o ≠ 4) : P4 k [mk o t e] := fun w hw => by rw [List.mem_singleton.mp hw]; exact p4_mk h h4
theorem P4.two {k o t e o2 t2 e2 : Nat} (h : o < 256) (h4 : o ≠ 4) (h' : o2 < 256) (h4' : o2 ≠ 4) : P4 k [mk o t e, mk o2 t2 e2] := (P4.one h h4).app (V := [mk o2 t2 e2]) (P4.one h' h4')
theorem P4.aim {k : Nat} {C : List Int} {i p : Nat} (hj : jp C i) (h : P4 k C) : P4 k (aim C (i : Int) p) := by
  rw [aim_set hj.1]
  intro w hw
  rcases mst_mem i w hw with h1 | h1
  · exact h w h1
  · have h2 := hj.2
    have e : wo w = wo (gx C i) := by rw [h1]; unfold wo; omega
    intro h3
    omega
theorem P4_pel {k a : Nat} {q st : Int} {S : List (Int × Int)} {C : List Int} {E : EE} {Fn : FF} {U : List Int} (h : P4 k C) (hst : q = 2 → ∃ i : Nat, st = (i : Int) ∧ jp C i) : P4 k (pel K a q st S C E Fn U).2.2.1 := by
  unfold pel
  split
  · next e =>
    obtain ⟨i, rfl, hj⟩ := hst e.1
    split
    · exact ((h.app (P4.one (by decide) (by decide))).aim hj.app).app (P4.one (by decide) (by decide))
    · exact h
  · exact h
theorem P4_pcb {k a : Nat} {cl1 : Bool} {q st : Int} {S : List (Int × Int)} {C : List Int} {E : EE} {Fn : FF} {U : List Int} (hV : PSo ((q, st) :: S) C) (h : P4 k C) (ha : cl1 = false → a < k) (ha2 : a < 256) : P4 k (pcb K a cl1 q st S C E Fn U).2.2.1 := by
  rw [pcb_pc2]
  have k2 : PSo ((q, st) :: S) (C ++ [mk 4 a (if cl1 = true then 1 else 0)]) := hV.app
  have h2 : P4 k (C ++ [mk 4 a (if cl1 = true then 1 else 0)]) := h.app (fun w hw => by
    rw [List.mem_singleton.mp hw]
    intro h1 h3
    rw [we_mk (by decide) ha2] at h3
    rw [wt_mk (by decide) ha2]
    cases cl1 with
    | true => rw [if_pos rfl] at h3; exact absurd h3 (by decide)
    | false => have := ha rfl; omega)
  generalize C ++ [mk 4 a (if cl1 = true then 1 else 0)] = C2 at k2 h2
  unfold pc2
  split
  · exact P4_pel (h2.app (P4.one (by decide) (by decide))) (fun h => by omega)
  · split
    · exact P4_pel h2 (fun h => by omega)
    · rcases k2 (q, st) (List.mem_cons_self) with hq | ⟨i, e, hj⟩
      · change q = 0 ∨ q = 1 at hq
        omega
      · change st = (i : Int) at e
        subst e
        exact P4_pel (h2.aim hj) (fun _ => ⟨i, rfl, hj.aim hj.1⟩)
theorem P4_pst {k a : Nat} {q st : Int} {S : List (Int × Int)} {C : List Int} {E : EE} {Fn : FF} {U : List Int} (hK : K.length ≤ 195) (hV : PSo ((q, st) :: S) C) (h : P4 k C) (ha : a < k) (hk : k ≤ 195) : P4 k (pst K a q st S C E Fn U).2.2.1 := by
  rw [pst_psx]
  by_cases h13 : kn K a = 13
  · rw [if_pos h13]
    exact P4_pcb hV h (fun _ => ha) (by omega)
  rw [if_neg h13]
  by_cases hb : bgn (kn K a) = true
  · rw [if_pos hb]
    exact P4_pcb hV h (fun _ => ha) (by omega)
  rw [if_neg hb]
  have hl : a < K.length := kn_lt (fun e => hb (by rw [e]; decide))
  by_cases h12 : kn K a = 12
  · rw [if_pos h12]
    exact h.app (P4.two (by decide) (by decide) (by decide) (by decide))
  rw [if_neg h12]
  have hd := sth_D (C := C) hK hl
  revert hd
  generalize sth K a (C ++ [mk 6 a 0]) = x
  obtain ⟨ok, e, V⟩ := x
  intro hd
  unfold psx
  cases ok with
  | false =>
    rw [if_pos rfl]
    exact h.app (P4.one (by decide) (by decide))
  | true =>
    rw [if_neg (show ¬ (true : Bool) = false by decide)]
    obtain ⟨D, d1, dw, -⟩ := hd rfl
    change V = C ++ mk 6 a 0 :: D at d1
    have hVb : P4 k V := by
      rw [d1]
      exact h.app (fun w hw => by
        rcases List.mem_cons.mp hw with hw | hw
        · rw [hw]; exact p4_mk (by decide) (by decide)
        · exact p4_wx (dw w hw))
    split
    · exact hVb.app (P4.two (by decide) (by decide) (by decide) (by decide))
    · split
      · exact hVb.app (P4.one (by decide) (by decide))
      · exact hVb.app (P4.one (by split <;> (try split) <;> decide) (by split <;> (try split) <;> decide))
theorem P4_pstep {k : Nat} {x : PS} (hK : K.length ≤ 195) (hV : PV K x) (h1 : x.1 < K.length) (h2 : x.1 < k) (hk : k ≤ 195) (h : P4 k x.2.2.1) : P4 k (pstep K x).2.2.1 := by
  obtain ⟨a, S, C, E, Fn, U⟩ := x
  cases S with
  | nil =>
    show P4 k (pit K a C E Fn U).2.2.1
    by_cases k3 : kn K a = 3
    · rw [pit_fn k3]
      split
      · exact h.app (P4.two (by decide) (by decide) (by decide) (by decide))
      · exact h
    · unfold pit
      split
      · split
        · split
          · exact h.app (P4.one (by decide) (by decide))
          · exact h
        · exact h
      · exact h
  | cons y S =>
    obtain ⟨q, st⟩ := y
    exact P4_pst hK hV.2.1 h h2 hk
/-- the state in which the last token was taken -/
theorem pre_ok (hK : K.length ≤ 195) (hN : ∀ i, i < K.length → kn K i ≠ 24) : ∀ (d : Nat) (x : PS), PI K x → PV K x → FV x.2.2.1 x.2.2.2.2.1 → GYv x → P4 K.length x.2.2.1 → 391 ≤ d + (x.1 + x.2.2.2.1.length) →
    (PI K (pre K d x) ∧ PV K (pre K d x) ∧ FV (pre K d x).2.2.1 (pre K d x).2.2.2.2.1 ∧ GYv (pre K d x) ∧ P4 K.length (pre K d x).2.2.1) ∧ (pre K d x).1 = K.length ∧ ∃ e, prun K d x = prun K e (pre K d x) ∧ 391 ≤ e + ((pre K d x).1 + (pre K d x).2.2.2.1.length) := by
  intro d
  induction d with
  | zero =>
    intro x hP _ _ _ _ hd
    have h1 := hP.1
    have h2 := hP.2.2.1
    omega
  | succ d ih =>
    intro x hP hV hF hG h4 hd
    by_cases hl : x.1 < K.length
    · have ep : pre K (d + 1) x = pre K d (pstep K x) := if_pos hl
      rw [ep, prun_succ, if_pos (Or.inl hl)]
      have up := pstep_up hK hP.1 (Or.inl hl)
      exact ih _ (PI_pstep hK hN hP (Or.inl hl)) (PV_pstep hK hV (Or.inl hl) hP.1) (FV_pstep hK hV hF (Or.inl hl)) (GY_pstep hK hV (Or.inl hl) hG) (P4_pstep hK hV hl hl hK h4) (by omega)
    · have ep : pre K (d + 1) x = x := if_neg hl
      rw [ep]
      have h1 := hP.1
      exact ⟨⟨hP, hV, hF, hG, h4⟩, by omega, d + 1, rfl, hd⟩
/-- words that stand as they were, but for jumps -/
def kpw (C C' : List Int) : Prop := C.length ≤ C'.length ∧ ∀ i, i < C.length → wo (gx C' i) = wo (gx C i) ∧ (wo (gx C i) ≠ 11 → wo (gx C i) ≠ 12 → gx C' i = gx C i)
theorem kpw.rf {C : List Int} : kpw C C := ⟨Nat.le_refl _, fun _ _ => ⟨rfl, fun _ _ => rfl⟩⟩
theorem kpw.tr {C C1 C2 : List Int} (h : kpw C C1) (k : kpw C1 C2) : kpw C C2 := ⟨Nat.le_trans h.1 k.1, fun i hi => by
  have a := h.2 i hi
  have b := k.2 i (by have := h.1; omega)
  exact ⟨b.1.trans a.1, fun c d => (b.2 (by rw [a.1]; exact c) (by rw [a.1]; exact d)).trans (a.2 c d)⟩⟩
theorem kpw.app {C V : List Int} : kpw C (C ++ V) := ⟨by rw [List.length_append]; omega, fun i hi => by rw [gx_app, if_pos hi]; exact ⟨rfl, fun _ _ => rfl⟩⟩
theorem kpw.aim {C : List Int} {j p : Nat} (hj : jp C j) : kpw C (aim C (j : Int) p) := by
  rw [aim_set hj.1]
  refine ⟨by rw [List.length_set]; exact Nat.le_refl _, fun i hi => ?_⟩
  rw [gx_set C j i hj.1]
  by_cases e : i = j
  · rw [if_pos e, e]
    have h := hj.2
    exact ⟨by unfold wo; omega, fun a b => by omega⟩
  · rw [if_neg e]
    exact ⟨rfl, fun _ _ => rfl⟩
theorem kpw_pel {a : Nat} {q st : Int} {S : List (Int × Int)} {C : List Int} {E : EE} {Fn : FF} {U : List Int} (hk : kn K a ≠ 6) : (pel K a q st S C E Fn U).2.2.1 = C := by
  unfold pel
  rw [if_neg (fun h => hk h.2)]
theorem kpw_end {a : Nat} {q st : Int} {S : List (Int × Int)} {C : List Int} {E : EE} {Fn : FF} {U : List Int} (hV : PSo ((q, st) :: S) C) (hk : kn K a = 24) : kpw (C ++ [mk 4 a 0]) (pst K a q st S C E Fn U).2.2.1 := by
  rw [pst_psx, if_neg (by rw [hk]; decide), if_pos (by rw [hk]; decide), pcb_pc2]
  show kpw (C ++ [mk 4 a 0]) (pc2 K a q st (-1) S (C ++ [mk 4 a 0]) (E ++ [((a : Int), -1, -1)]) Fn U).2.2.1
  have k2 : PSo ((q, st) :: S) (C ++ [mk 4 a 0]) := hV.app
  have h6 : kn K a ≠ 6 := by rw [hk]; decide
  generalize C ++ [mk 4 a 0] = C2 at k2
  unfold pc2
  split
  · rw [kpw_pel h6]; exact kpw.app
  · split
    · rw [kpw_pel h6]; exact kpw.rf
    · rw [kpw_pel h6]
      rcases k2 (q, st) (List.mem_cons_self) with hq | ⟨i, e, hj⟩
      · change q = 0 ∨ q = 1 at hq
        omega
      · change st = (i : Int) at e
        subst e
        exact kpw.aim hj
theorem kpw_run (hK : K.length ≤ 195) (hN : ∀ i, i < K.length → kn K i ≠ 24) : ∀ (d : Nat) (x : PS), PI K x → PV K x → x.1 = K.length → kpw x.2.2.1 (prun K d x).2.2.1 := by
  intro d
  induction d with
  | zero => intro x _ _ _; exact kpw.rf
  | succ d ih =>
    intro x hP hV hx
    rw [prun_succ]
    split
    · next e =>
      have p1 := PI_pstep hK hN hP e
      have p2 := PV_pstep hK hV e hP.1
      obtain ⟨a, S, C, E, Fn, U⟩ := x
      change a = K.length at hx
      cases S with
      | nil =>
        rcases e with e | e
        · change a < K.length at e; omega
        · exact absurd rfl e
      | cons y S =>
        obtain ⟨q, st⟩ := y
        have hk : kn K a = 24 := kn_end (by omega)
        exact (kpw.app.tr (kpw_end hV.2.1 hk)).tr (ih _ p1 p2 ((pst_end hk).1.trans hx))
    · exact kpw.rf
/-- the row of words that is read: its first end of a block at END, or none -/
theorem prs_end (hK : K.length ≤ 195) (hN : ∀ i, i < K.length → kn K i ≠ 24) {y : PS} (hy : y = pre K 600 (0, [], [], [], [], [])) :
    ((PI K y ∧ PV K y ∧ FV y.2.2.1 y.2.2.2.2.1 ∧ GYv y ∧ P4 K.length y.2.2.1) ∧ y.1 = K.length) ∧ (y.2.1 = [] → (prs K).2.2.1 = y.2.2.1) ∧ (y.2.1 ≠ [] → kpw (y.2.2.1 ++ [mk 4 K.length 0]) (prs K).2.2.1) := by
  have h := pre_ok hK hN 600 (0, [], [], [], [], []) PI_0 PV_0 (fun e he => absurd he (List.not_mem_nil)) (Nat.le_refl _) (fun w hw => absurd hw (List.not_mem_nil)) (by show 391 ≤ 600 + (0 + 0); decide)
  rw [← hy] at h
  obtain ⟨h1, h2, e, h3, h4⟩ := h
  refine ⟨⟨h1, h2⟩, fun h0 => ?_, fun h0 => ?_⟩
  · show (prun K 600 (0, [], [], [], [], [])).2.2.1 = _
    rw [h3]
    cases e with
    | zero => rfl
    | succ e => rw [prun_succ, if_neg (fun h => by rcases h with h | h; omega; exact h h0)]
  · show kpw _ (prun K 600 (0, [], [], [], [], [])).2.2.1
    rw [h3]
    cases e with
    | zero =>
      have a1 := h1.1.1
      have a2 := h1.1.2.2.1
      omega
    | succ e =>
      rw [prun_succ, if_pos (Or.inr h0)]
      have p1 := PI_pstep hK hN h1.1 (Or.inr h0)
      have p2 := PV_pstep hK h1.2.1 (Or.inr h0) h1.1.1
      have p3 := h1.2.1
      clear h1 h3 h4 hy
      obtain ⟨a, S, C, E, Fn, U⟩ := y
      change a = K.length at h2
      subst h2
      cases S with
      | nil => exact absurd rfl h0
      | cons z S =>
        obtain ⟨q, st⟩ := z
        have hk : kn K K.length = 24 := kn_end (Nat.le_refl _)
        exact (kpw_end p3.2.1 hk).tr (kpw_run hK hN e _ p1 p2 (pst_end hk).1)
end Mi0
