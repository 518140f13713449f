/-! THE FUNCTIONS OF A FILE AND THEIR WORDS -/
def kp2 (C C' : List Int) : Prop := ∀ i, i < C.length → wo (gx C i) = 2 → i < C'.length ∧ gx C' i = gx C i
def FV (C : List Int) (Fn : FF) : Prop := ∀ e ∈ Fn, ∃ p n i : Nat, p < 256 ∧ e.1 = (p : Int) ∧ e.2.1 = (n : Int) ∧ e.2.2.1 = (i : Int) ∧ i < C.length ∧ gx C i = mk 2 p n
section M9l
variable {K C C' V : List Int} {S : List (Int × Int)} {E : EE} {Fn : FF} {U : List Int} {a : Nat}
theorem kp2.tr {C2 : List Int} (h : kp2 C C') (k : kp2 C' C2) : kp2 C C2 := fun i hi hw => by
  obtain ⟨h1, h2⟩ := h i hi hw
  obtain ⟨k1, k2⟩ := k i h1 (by rw [h2]; exact hw)
  exact ⟨k1, k2.trans h2⟩
theorem kp2.app : kp2 C (C ++ V) := fun i hi _ => ⟨by rw [List.length_append]; omega, by rw [gx_app, if_pos hi]⟩
theorem kp2.aim {j p : Nat} (hj : jp C j) : kp2 C (aim C (j : Int) p) := fun i hi hw => by
  refine ⟨by rw [aim_len]; exact hi, ?_⟩
  rw [aim_set hj.1, gx_set _ _ _ hj.1, if_neg]
  intro e
  rw [e] at hw
  have := hj.2
  omega
theorem FV.kp (h : FV C Fn) (k : kp2 C C') : FV C' Fn := fun e he => by
  obtain ⟨p, n, i, hp, h1, h2, h3, h4, h5⟩ := h e he
  obtain ⟨k1, k2⟩ := k i h4 (by rw [h5, wo_mk (by decide)]; rfl)
  exact ⟨p, n, i, hp, h1, h2, h3, k1, k2.trans h5⟩
theorem setLast_mem {v : Int} {e : Int × Int × Int × Int} (h : e ∈ setLast Fn v) : ∃ e' ∈ Fn, e.1 = e'.1 ∧ e.2.1 = e'.2.1 ∧ e.2.2.1 = e'.2.2.1 := by
  unfold setLast at h
  split at h
  · next n p s x hl =>
    rcases List.mem_append.mp h with h | h
    · exact ⟨e, (List.dropLast_sublist Fn).subset h, rfl, rfl, rfl⟩
    · rw [List.mem_singleton.mp h]
      exact ⟨_, List.mem_of_getLast? hl, rfl, rfl, rfl⟩
  · exact ⟨e, h, rfl, rfl, rfl⟩
theorem FV.last {v : Int} (h : FV C Fn) : FV C (setLast Fn v) := fun e he => by
  obtain ⟨e', h1, h2, h3, h4⟩ := setLast_mem he
  obtain ⟨p, n, i, hp, k1, k2, k3, k4⟩ := h e' h1
  exact ⟨p, n, i, hp, h2.trans k1, h3.trans k2, h4.trans k3, k4⟩
theorem FV_pel {q st : Int} (h : FV C Fn) (hst : q = 2 → ∃ i : Nat, st = (i : Int) ∧ jp C i) : FV (pel K a q st S C E Fn U).2.2.1 (pel K a q st S C E Fn U).2.2.2.2.1 := by
  unfold pel
  split
  · next e =>
    obtain ⟨i, rfl, hj⟩ := hst e.1
    split
    · exact h.kp (kp2.app.tr ((kp2.aim hj.app).tr kp2.app))
    · exact h
  · exact h
theorem FV_pcb {cl1 : Bool} {q st : Int} (hV : PSo ((q, st) :: S) C) (h : FV C Fn) : FV (pcb K a cl1 q st S C E Fn U).2.2.1 (pcb K a cl1 q st S C E Fn U).2.2.2.2.1 := by
  rw [pcb_pc2]
  have k2 : PSo ((q, st) :: S) (C ++ [mk 4 a (if cl1 = true then 1 else 0)]) := hV.app
  have h2 : FV (C ++ [mk 4 a (if cl1 = true then 1 else 0)]) Fn := h.kp kp2.app
  generalize C ++ [mk 4 a (if cl1 = true then 1 else 0)] = C2 at k2 h2
  unfold pc2
  split
  · exact FV_pel (h2.kp kp2.app).last (fun h => by omega)
  · split
    · exact FV_pel h2 (fun h => by omega)
    · rcases k2 (q, st) (List.mem_cons_self) with hq | ⟨i, e, hj⟩
      · change q = 0 ∨ q = 1 at hq
        omega
      · change st = (i : Int) at e
        subst e
        exact FV_pel (h2.kp (kp2.aim hj)) (fun _ => ⟨i, rfl, hj.aim hj.1⟩)
theorem FV_pit (ha : a < K.length) (hK : K.length ≤ 195) (h : FV C Fn) : FV (pit K a C E Fn U).2.2.1 (pit K a C E Fn U).2.2.2.2.1 := by
  by_cases k3 : kn K a = 3
  · rw [pit_fn k3]
    split
    · intro e he
      rcases List.mem_append.mp he with he | he
      · exact (h.kp (C' := C ++ [mk 2 (a + 1) (fnh K a).2.2, mk 3 (fnh K a).2.1 0]) kp2.app) e he
      · rw [List.mem_singleton.mp he]
        refine ⟨a + 1, (fnh K a).2.2, C.length, by omega, rfl, rfl, rfl, ?_, ?_⟩
        · show C.length < (C ++ [_, _]).length
          rw [List.length_append]
          show C.length < C.length + 2
          omega
        · show gx (C ++ [_, _]) C.length = _
          rw [gx_app, if_neg (by omega), Nat.sub_self]
          rfl
    · exact h
  · unfold pit
    split
    · split
      · split
        · exact h.kp kp2.app
        · exact h
      · exact h
    · exact h
theorem FV_pst {q st : Int} (hK : K.length ≤ 195) (hV : PSo ((q, st) :: S) C) (h : FV C Fn) : FV (pst K a q st S C E Fn U).2.2.1 (pst K a q st S C E Fn U).2.2.2.2.1 := by
  rw [pst_psx]
  by_cases h13 : kn K a = 13
  · rw [if_pos h13]
    exact FV_pcb hV h
  rw [if_neg h13]
  by_cases hb : bgn (kn K a) = true
  · rw [if_pos hb]
    exact FV_pcb hV h
  rw [if_neg hb]
  have hl : a < K.length := kn_lt (fun e => hb (by rw [e]; decide))
  by_cases h12 : kn K a = 12
  · rw [if_pos h12]
    exact h.kp kp2.app
  rw [if_neg h12]
  have hd := sth_D (C := C) hK hl
  revert hd
  generalize sth K a (C ++ [mk 6 a 0]) = x
  obtain ⟨ok, e, V⟩ := x
  intro hd
  unfold psx
  cases ok with
  | false =>
    rw [if_pos rfl]
    exact h.kp kp2.app
  | true =>
    rw [if_neg (show ¬ (true : Bool) = false by decide)]
    obtain ⟨D, d1, -⟩ := hd rfl
    change V = C ++ mk 6 a 0 :: D at d1
    have hk : kp2 C V := by rw [d1]; exact kp2.app
    split
    · exact h.kp (hk.tr kp2.app)
    · split
      · exact h.kp (hk.tr kp2.app)
      · exact h.kp (hk.tr kp2.app)
theorem FV_pstep {x : PS} (hK : K.length ≤ 195) (hV : PV K x) (h : FV x.2.2.1 x.2.2.2.2.1) (h1 : x.1 < K.length ∨ x.2.1 ≠ []) : FV (pstep K x).2.2.1 (pstep K x).2.2.2.2.1 := by
  obtain ⟨a, S, C, E, Fn, U⟩ := x
  cases S with
  | nil =>
    rcases h1 with h1 | h1
    · exact FV_pit h1 hK h
    · exact absurd rfl h1
  | cons y S =>
    obtain ⟨q, st⟩ := y
    exact FV_pst hK hV.2.1 h
theorem FV_prun (hK : K.length ≤ 195) (hN : ∀ i, i < K.length → kn K i ≠ 24) : ∀ (d : Nat) (x : PS), PI K x → PV K x → FV x.2.2.1 x.2.2.2.2.1 → FV (prun K d x).2.2.1 (prun K d x).2.2.2.2.1 := by
  intro d
  induction d with
  | zero => intro x _ _ h; exact h
  | succ d ih =>
    intro x hP hV h
    rw [prun_succ]
    split
    · next e => exact ih _ (PI_pstep hK hN hP e) (PV_pstep hK hV e hP.1) (FV_pstep hK hV h e)
    · exact h
end M9l
section M9l2
variable {X : Nat → List Int} {f k : Nat}
theorem Fw_ok (hX : ∀ r, r < 24 → Rok (X r)) (hf : f < 3) : FV (Cw X f) (Fw X f) := by
  have h1 := ks_len hX hf
  exact FV_prun (by omega) (fun i hi => ks_no hX hf hi) 600 _ PI_0 PV_0 (fun e h => absurd h (List.not_mem_nil))
/-- a word of a file -/
theorem Cw_wc (hX : ∀ r, r < 24 → Rok (X r)) (hf : f < 3) {i : Nat} (hi : i < (Cw X f).length) : WC (ks X f) (gx (Cw X f) i) := (Cw_pv hX hf).1.1.1 _ (gx_mem hi)
theorem Fw_tok (hX : ∀ r, r < 24 → Rok (X r)) (hf : f < 3) {e : Int × Int × Int × Int} (he : e ∈ Fw X f) : ∃ p n i : Nat, p < 256 ∧ e.1 = (p : Int) ∧ e.2.1 = (n : Int) ∧ e.2.2.1 = (i : Int) ∧ i < (Cw X f).length ∧ gx (Cw X f) i = mk 2 p n ∧ ∀ j, j ≤ n → kn (ks X f) (p + 2 * j) = 0 := by
  obtain ⟨p, n, i, hp, h1, h2, h3, h4, h5⟩ := Fw_ok hX hf e he
  refine ⟨p, n, i, hp, h1, h2, h3, h4, h5, fun j hj => ?_⟩
  obtain ⟨o, t, x, e1, e2, e3⟩ := Cw_wc hX hf h4
  rw [h5] at e1
  have a1 : o < 256 := by unfold oX at e3; omega
  have b1 := wo_mk (o := 2) (t := p) (e := n) (by decide)
  have b2 := wt_mk (o := 2) (t := p) (e := n) (by decide) hp
  have b3 := we_mk (o := 2) (t := p) (e := n) (by decide) hp
  rw [e1, wo_mk a1] at b1
  rw [e1, wt_mk a1 e2] at b2
  rw [e1, we_mk a1 e2] at b3
  have c1 : o = 2 := by omega
  have c2 : t = p := by omega
  have c3 : x = n := by omega
  subst c1 c2 c3
  rcases e3 with e3 | e3 | e3 | e3 | e3 | e3
  · unfold oX at e3; omega
  · omega
  · exact e3.2 j hj
  · omega
  · omega
  · omega
theorem ite_10 {c : Prop} [Decidable c] {a b : Int} (ha : 10 ≤ a) (hb : 10 ≤ b) : 10 ≤ (if c then a else b) := by split <;> assumption
theorem sgc_10 (c : Int) : 10 ≤ sgc c := by
  unfold sgc
  exact ite_10 (by decide) (ite_10 (by decide) (ite_10 (by decide) (ite_10 (by decide) (ite_10 (by decide) (ite_10 (by decide) (ite_10 (by decide) (ite_10 (by decide) (ite_10 (by decide) (ite_10 (by decide) (ite_10 (by decide) (ite_10 (by decide) (ite_10 (by decide) (by decide)))))))))))))
/-- a NAME begins with a letter -/
theorem name_let (hk : kn (ks X f) k = 0) : k < (toks X f).length ∧ 97 ≤ chr X f k 0 ∧ chr X f k 0 ≤ 122 := by
  have h1 : k < (toks X f).length := by have := kn_lt (K := ks X f) (i := k) (by rw [hk]; decide); rwa [ks_len'] at this
  refine ⟨h1, ?_⟩
  have o := toks_ok h1
  rw [kn_tk h1, o.2.2.2] at hk
  have e0 : gx (seg (X (8 * f + tl X f k)) (tc X f k) (ts X f k)) 0 = chr X f k 0 := by
    rw [seg_gx (by omega)]
    rfl
  unfold clsw at hk
  rw [e0] at hk
  by_cases hl : isL (chr X f k 0) = true
  · unfold isL at hl
    have := of_decide_eq_true hl
    exact this
  · rw [if_neg hl] at hk
    split at hk
    · split at hk <;> omega
    · split at hk
      · omega
      · have := sgc_10 (chr X f k 0)
        omega
end M9l2
