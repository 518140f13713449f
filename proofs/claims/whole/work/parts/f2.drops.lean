/-! A CALL STANDS AHEAD OF EACH DROP -/
/-- what is open: a call at the bottom -/
def LB : List Lv → Prop
  | [] => False
  | l :: r => (r = [] ∧ shp l = 2) ∨ (r ≠ [] ∧ shp l ≠ 0 ∧ LB r)
def XBc (y : XS) : Prop := LB y.2.2.1 ∧ y.1 ≠ 3
def E15 (C : List Int) : Prop := ∃ (D : List Int) (p k : Nat), C = D ++ [mk 15 p k]
def DRc (C : List Int) : Prop := ∀ i, i < C.length → wo (gx C i) = 9 → 0 < i ∧ wo (gx C (i - 1)) = 15
section Mf2
variable {K : List Int} {a a' : Nat} {l l' m : Lv} {r : List Lv} {C V : List Int} {S : List (Int × Int)} {E : EE} {Fn : FF} {U : List Int}
theorem LB.hd (h : LB (l :: r)) : shp l ≠ 0 := by
  rcases h with ⟨-, h⟩ | ⟨-, h, -⟩
  · omega
  · exact h
theorem LB.ch (h : LB (l :: r)) (e : shp l' = shp l) : LB (l' :: r) := by
  rcases h with ⟨h1, h2⟩ | ⟨h1, h2, h3⟩
  · exact Or.inl ⟨h1, by rw [e]; exact h2⟩
  · exact Or.inr ⟨h1, by rw [e]; exact h2, h3⟩
theorem LB.push (h : LB (l :: r)) (e : shp m ≠ 0) : LB (m :: l :: r) := Or.inr ⟨fun x => (by cases x), e, h⟩
theorem XBc.mk' {s b : Nat} {L : List Lv} {D : List Int} (h : LB L) (hs : s ≠ 3) : XBc (s, b, L, D) := ⟨h, hs⟩
theorem XB_xop (h : LB (l :: r)) : XBc (xop K a l r C) := by
  unfold xop
  split
  · exact XBc.mk' (h.ch rfl) (by decide)
  · split
    · exact XBc.mk' (h.push (show (2 : Int) ≠ 0 by decide)) (by decide)
    · split
      · exact XBc.mk' (h.push (show (1 : Int) ≠ 0 by decide)) (by decide)
      · split
        · exact XBc.mk' h (by decide)
        · split
          · exact XBc.mk' h (by decide)
          · exact XBc.mk' h (by decide)
theorem XB_xcl (h : LB (l :: r)) : XBc (xcl K a l r C) := by
  unfold xcl
  rw [if_neg h.hd]
  split
  · split
    · exact XBc.mk' (h.ch rfl) (by decide)
    · split
      · exact XBc.mk' (h.ch rfl) (by decide)
      · exact XBc.mk' (h.ch rfl) (by decide)
  · split
    · exact XBc.mk' h (by decide)
    · exact XBc.mk' h (by decide)
theorem XB_xb3 (h : LB (l :: r)) : XBc (xb3 K a l r C) := by
  unfold xb3
  split
  · exact XBc.mk' (h.ch rfl) (by decide)
  · split
    · split
      · exact XBc.mk' (h.ch rfl) (by decide)
      · exact XB_xcl (h.ch rfl)
    · exact XB_xcl (h.ch rfl)
theorem XB_xbh (h : LB (l :: r)) : XBc (xbh K a l r C) := by
  unfold xbh xb2
  split
  · exact XBc.mk' (h.ch rfl) (by decide)
  · exact XB_xb3 h
theorem XB_xsh {y : XS} (h : XBc y) : ((xsh y).1 = 3 ∧ E15 (xsh y).2.2.2) ∨ XBc (xsh y) := by
  obtain ⟨s, b, L, D⟩ := y
  by_cases hs : s = 4
  · subst hs
    cases L with
    | nil => exact absurd h.1 (fun h => h)
    | cons l r =>
      show (((if r = [] then 3 else 2) : Nat) = 3 ∧ E15 (D ++ [mk (if shp l = 1 then 18 else 15) (opn l).toNat (szs l).toNat])) ∨ XBc ((if r = [] then 3 else 2), b + 1, r, _)
      rcases h.1 with ⟨h1, h2⟩ | ⟨h1, h2, h3⟩
      · left
        rw [if_pos h1, if_neg (by omega)]
        exact ⟨rfl, D, _, _, rfl⟩
      · right
        rw [if_neg h1]
        exact XBc.mk' h3 (by decide)
  · have e : xsh (s, b, L, D) = (s, b, L, D) := by
      unfold xsh
      split
      · next e => injection e with e1; exact absurd e1 hs
      · rfl
    rw [e]
    exact Or.inr h
theorem XB_xst {x : XS} (h : XBc x) : ((xst K x).1 = 3 ∧ E15 (xst K x).2.2.2) ∨ XBc (xst K x) := by
  obtain ⟨s, b, L, D⟩ := x
  cases L with
  | nil => exact absurd h.1 (fun h => h)
  | cons l r =>
    by_cases h1 : s = 1
    · subst h1
      exact XB_xsh (XB_xop h.1)
    · by_cases h2 : s = 2
      · subst h2
        exact XB_xsh (XB_xbh h.1)
      · have e : xst K (s, b, l :: r, D) = (s, b, l :: r, D) := by
          unfold xst
          split
          · next e => injection e with e1; exact absurd e1 h1
          · next e => injection e with e1; exact absurd e1 h2
          · rfl
        rw [e]
        exact Or.inr h
theorem xrun_15 : ∀ (d : Nat) (x : XS), XBc x → (xrun K d x).1 = 3 → E15 (xrun K d x).2.2.2
  | 0, x, _, h => absurd (show (0 : Nat) = 3 from h) (by decide)
  | d + 1, x, hx, h => by
    have k := XB_xst (K := K) hx
    unfold xrun at h ⊢
    split at h
    · next c =>
      rw [if_pos c]
      rcases k with k | k
      · exact k.2
      · exact absurd h k.2
    · next c =>
      rw [if_neg c]
      rcases k with k | k
      · exact absurd (Or.inr k.1) c
      · exact xrun_15 d _ k h
theorem sth_call (h0 : kn K a = 0) (h1 : kn K (a + 1) = 10) (h : (sth K a C).1 = true) : E15 (sth K a C).2.2 := by
  rw [sth_fi, if_neg (by omega), if_neg (by omega), if_pos ⟨h0, h1⟩] at h ⊢
  unfold fi at h ⊢
  split at h
  · next c =>
    rw [if_pos c]
    exact xrun_15 _ _ (XBc.mk' (Or.inl ⟨rfl, rfl⟩) (by decide)) c.1
  · cases h
theorem DRc.app (h : DRc C) (hV : ∀ w ∈ V, wo w ≠ 9) : DRc (C ++ V) := by
  intro i hi h9
  rw [gx_app] at h9
  by_cases e : i < C.length
  · rw [if_pos e] at h9
    obtain ⟨k1, k2⟩ := h i e h9
    refine ⟨k1, ?_⟩
    rw [gx_app, if_pos (by omega)]
    exact k2
  · rw [if_neg e] at h9
    rw [List.length_append] at hi
    exact absurd h9 (hV _ (gx_mem (by omega)))
theorem DRc.sn {w : Int} (h : DRc C) (he : E15 C) : DRc (C ++ [w]) := by
  obtain ⟨D, p, k, rfl⟩ := he
  intro i hi h9
  rw [gx_app] at h9
  by_cases e : i < (D ++ [mk 15 p k]).length
  · rw [if_pos e] at h9
    obtain ⟨k1, k2⟩ := h i e h9
    refine ⟨k1, ?_⟩
    rw [gx_app, if_pos (by omega)]
    exact k2
  · rw [List.length_append, List.length_singleton, List.length_append, List.length_singleton] at hi
    rw [List.length_append, List.length_singleton] at e
    have ei : i = D.length + 1 := by omega
    subst ei
    refine ⟨by omega, ?_⟩
    rw [gx_app, if_pos (by rw [List.length_append, List.length_singleton]; omega), Nat.add_sub_cancel, gx_app, if_neg (by omega), Nat.sub_self]
    show wo (mk 15 p k) = 15
    rw [wo_mk (by decide)]
    rfl
theorem DRc.aim {i p : Nat} (h : DRc C) (hj : jp C i) : DRc (aim C (i : Int) p) := by
  rw [aim_set hj.1]
  have e : ∀ j, wo (gx (C.set i (gx C i % 65536 + 65536 * (p : Int))) j) = wo (gx C j) := fun j => by
    rw [gx_set C i j hj.1]
    by_cases e : j = i
    · rw [if_pos e, e]
      unfold wo
      omega
    · rw [if_neg e]
  intro j hj2 h9
  rw [List.length_set] at hj2
  rw [e] at h9 ⊢
  exact h j hj2 h9
theorem n9 {o t e : Nat} (h : o < 256) (h9 : o ≠ 9) : ∀ w ∈ [mk o t e], wo w ≠ 9 := fun w hw => by
  rw [List.mem_singleton.mp hw, wo_mk h]
  omega
theorem n92 {o t e o' t' e' : Nat} (h : o < 256) (h9 : o ≠ 9) (h' : o' < 256) (h9' : o' ≠ 9) : ∀ w ∈ [mk o t e, mk o' t' e'], wo w ≠ 9 := fun w hw => by
  rcases List.mem_cons.mp hw with hw | hw
  · rw [hw, wo_mk h]; omega
  · exact n9 h' h9' w hw
theorem DR_pel {q st : Int} (h : DRc C) (hst : q = 2 → ∃ i : Nat, st = (i : Int) ∧ jp C i) : DRc (pel K a q st S C E Fn U).2.2.1 := by
  unfold pel
  split
  · next e =>
    obtain ⟨i, rfl, hj⟩ := hst e.1
    split
    · exact (DRc.aim (h.app (n9 (by decide) (by decide))) hj.app).app (n9 (by decide) (by decide))
    · exact h
  · exact h
theorem DR_pcb {cl1 : Bool} {q st : Int} (hV : PSo ((q, st) :: S) C) (h : DRc C) : DRc (pcb K a cl1 q st S C E Fn U).2.2.1 := by
  rw [pcb_pc2]
  have k2 : PSo ((q, st) :: S) (C ++ [mk 4 a (if cl1 = true then 1 else 0)]) := hV.app
  have h2 : DRc (C ++ [mk 4 a (if cl1 = true then 1 else 0)]) := h.app (n9 (by decide) (by decide))
  generalize C ++ [mk 4 a (if cl1 = true then 1 else 0)] = C2 at k2 h2
  unfold pc2
  split
  · exact DR_pel (h2.app (n9 (by decide) (by decide))) (fun h => by omega)
  · split
    · exact DR_pel h2 (fun h => by omega)
    · rcases k2 (q, st) (List.mem_cons_self) with hq | ⟨i, e, hj⟩
      · change q = 0 ∨ q = 1 at hq
        omega
      · change st = (i : Int) at e
        subst e
        exact DR_pel (h2.aim hj) (fun _ => ⟨i, rfl, hj.aim hj.1⟩)
theorem DR_pit (h : DRc C) : DRc (pit K a C E Fn U).2.2.1 := by
  by_cases k3 : kn K a = 3
  · rw [pit_fn k3]
    split
    · exact h.app (n92 (by decide) (by decide) (by decide) (by decide))
    · exact h
  · unfold pit
    split
    · split
      · split
        · exact h.app (n9 (by decide) (by decide))
        · exact h
      · exact h
    · exact h
theorem DR_pst {q st : Int} (hK : K.length ≤ 195) (hV : PSo ((q, st) :: S) C) (h : DRc C) : DRc (pst K a q st S C E Fn U).2.2.1 := by
  rw [pst_psx]
  by_cases h13 : kn K a = 13
  · rw [if_pos h13]
    exact DR_pcb hV h
  rw [if_neg h13]
  by_cases hb : bgn (kn K a) = true
  · rw [if_pos hb]
    exact DR_pcb hV h
  rw [if_neg hb]
  have hl : a < K.length := kn_lt (fun e => hb (by rw [e]; decide))
  by_cases h12 : kn K a = 12
  · rw [if_pos h12]
    exact h.app (n92 (by decide) (by decide) (by decide) (by decide))
  rw [if_neg h12]
  have hd := sth_D (C := C) hK hl
  have hc : kn K a = 0 → kn K (a + 1) = 10 → (sth K a (C ++ [mk 6 a 0])).1 = true → E15 (sth K a (C ++ [mk 6 a 0])).2.2 := fun h0 h1 h => sth_call h0 h1 h
  have hz : (sth K a (C ++ [mk 6 a 0])).1 = true → kn K a ≠ 5 → kn K a ≠ 4 → kn K a ≠ 7 → kn K a = 0 := by
    intro h1 h5 h4 h7
    rw [sth_fi, if_neg h5, if_neg h7] at h1
    split at h1
    · next c => exact c.1
    · split at h1
      · next c =>
        exact c
      · cases h1
  revert hd hc hz
  generalize sth K a (C ++ [mk 6 a 0]) = x
  obtain ⟨ok, e, V⟩ := x
  intro hd hc hz
  unfold psx
  cases ok with
  | false =>
    rw [if_pos rfl]
    exact h.app (n9 (by decide) (by decide))
  | true =>
    rw [if_neg (show ¬ (true : Bool) = false by decide)]
    obtain ⟨D, d1, d2, -⟩ := hd rfl
    change V = C ++ mk 6 a 0 :: D at d1
    have hD : DRc V := by
      rw [d1]
      refine h.app (fun w hw => ?_)
      rcases List.mem_cons.mp hw with hw | hw
      · rw [hw, wo_mk (by decide)]; decide
      · obtain ⟨o, t, e, e1, e2, e3⟩ := d2 w hw
        rw [e1, wo_mk (by omega)]
        omega
    split
    · exact hD.app (n92 (by decide) (by decide) (by decide) (by decide))
    · next h5 =>
      split
      · exact hD.app (n9 (by decide) (by decide))
      · next h4 =>
        by_cases h7 : kn K a = 7
        · rw [if_pos h7]
          exact hD.app (n9 (by decide) (by decide))
        · rw [if_neg h7]
          by_cases h10 : kn K (a + 1) = 10
          · rw [if_pos h10]
            exact hD.sn (hc (hz rfl h5 h4 h7) h10 rfl)
          · rw [if_neg h10]
            exact hD.app (n9 (by decide) (by decide))
theorem DR_prun (hK : K.length ≤ 195) (hN : ∀ i, i < K.length → kn K i ≠ 24) : ∀ (d : Nat) (x : PS), PI K x → PV K x → DRc x.2.2.1 → DRc (prun K d x).2.2.1 := by
  intro d
  induction d with
  | zero => intro x _ _ h; exact h
  | succ d ih =>
    intro x hP hV h
    rw [prun_succ]
    split
    · next e =>
      refine ih _ (PI_pstep hK hN hP e) (PV_pstep hK hV e hP.1) ?_
      obtain ⟨a, S, C, E, Fn, U⟩ := x
      cases S with
      | nil => exact DR_pit h
      | cons y S =>
        obtain ⟨q, st⟩ := y
        exact DR_pst hK hV.2.1 h
    · exact h
theorem Cw_dr {X : Nat → List Int} {f : Nat} (hX : ∀ r, r < 24 → Rok (X r)) (hf : f < 3) : DRc (Cw X f) := by
  have h1 := ks_len hX hf
  exact DR_prun (by omega) (fun i hi => ks_no hX hf hi) 600 _ PI_0 PV_0 (fun i h => absurd h (Nat.not_lt_zero i))
end Mf2
