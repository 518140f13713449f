/-! THE READER OF THE CLASS: a file as a whole -/
theorem PI_up {K : List Int} {a a' : Nat} {S S' : List (Int × Int)} {C C' : List Int} {E E' : EE} {Fn Fn' : FF} {U : List Int} (h : PI K (a, S, C, E, Fn, U)) (h1 : a ≤ a') (h2 : a' ≤ K.length) (h3 : C'.length + pns S' ≤ 3 * a') (h4 : E'.length + S'.length ≤ a') (h5 : W32 C') (h6 : Fn'.length = Fn.length) : PI K (a', S', C', E', Fn', U) := by
  obtain ⟨i1, i2, i3, i4, i5, i6⟩ := h
  change 5 * Fn.length ≤ a at i4
  change 5 * U.length ≤ wts K a at i5
  have := wts_mo (K := K) (a := a) (a' - a)
  rw [show a + (a' - a) = a' by omega] at this
  exact ⟨h2, h3, h4, by show 5 * Fn'.length ≤ a'; omega, by show 5 * U.length ≤ wts K a'; omega, h5⟩
theorem len1 {C : List Int} {w : Int} : (C ++ [w]).length = C.length + 1 := by rw [List.length_append, List.length_singleton]
theorem len2 {C : List Int} {w v : Int} : (C ++ [w, v]).length = C.length + 2 := by rw [List.length_append]; rfl
theorem W32.two {C : List Int} {w v : Int} (h : W32 C) (hw : 0 ≤ w ∧ w < 2147483648) (hv : 0 ≤ v ∧ v < 2147483648) : W32 (C ++ [w, v]) := by
  have := (h.snoc hw).snoc hv
  rw [List.append_assoc] at this
  exact this
section M69
variable {F G : MF} {n t b z a : Nat} {K : List Int} {S : List (Int × Int)} {C W : List Int} {E : EE} {Fn : FF} {U : List Int}
theorem PI_bad {e : Nat} (h : PI K (a, [], C, E, Fn, U)) (h1 : a + 1 ≤ skI K (K.length - e) e) (h2 : e ≤ K.length) : PI K (skI K (K.length - e) e, [], C, E ++ [((e : Int), -1, -1)], Fn, U) := by
  have h3 := skI_le K (K.length - e) e
  have i2 : C.length + 0 ≤ 3 * a := h.2.1
  have i3 : E.length + 0 ≤ a := h.2.2.1
  refine PI_up h (by omega) (by omega) ?_ ?_ h.2.2.2.2.2 rfl
  · show C.length + 0 ≤ _
    omega
  · rw [List.length_append]
    show E.length + 1 + 0 ≤ _
    omega
theorem skI_mv (ha : a < K.length) (hb : bgn (kn K a) ≠ true) : a + 1 ≤ skI K (K.length - a) a := by
  obtain ⟨d, hd⟩ : ∃ d, K.length - a = d + 1 := ⟨K.length - a - 1, by omega⟩
  rw [hd]
  unfold skI
  rw [if_neg hb]
  exact skI_ge K d (a + 1)
theorem skS_mv (ha : a < K.length) (h12 : kn K a ≠ 12) (h13 : kn K a ≠ 13) (hb : bgn (kn K a) ≠ true) : a + 1 ≤ skS K (K.length - a) a := by
  obtain ⟨d, hd⟩ : ∃ d, K.length - a = d + 1 := ⟨K.length - a - 1, by omega⟩
  rw [hd]
  unfold skS
  split
  · next e =>
    have h15 : kn K a = 15 := by
      unfold stp at e
      rw [Bool.or_eq_true, decide_eq_true_iff] at e
      rcases e with (e | e | e) | e
      · exact e
      · exact absurd e h12
      · exact absurd e h13
      · exact absurd e hb
    rw [if_pos h15]
    exact Nat.le_refl _
  · exact skS_ge K d (a + 1)
theorem PI_pit (hK : K.length ≤ 195) (hN : ∀ i, i < K.length → kn K i ≠ 24) (h : PI K (a, [], C, E, Fn, U)) (ha : a < K.length) : PI K (pit K a C E Fn U) := by
  have i2 : C.length + 0 ≤ 3 * a := h.2.1
  have i3 : E.length + 0 ≤ a := h.2.2.1
  have i4 : 5 * Fn.length ≤ a := h.2.2.2.1
  have i5 : 5 * U.length ≤ wts K a := h.2.2.2.2.1
  have i6 : W32 C := h.2.2.2.2.2
  have bad : ∀ e, a < e → e ≤ K.length → PI K (skI K (K.length - e) e, [], C, E ++ [((e : Int), -1, -1)], Fn, U) := fun e h1 h2 => PI_bad h (by have := skI_ge K (K.length - e) e; omega) h2
  unfold pit
  by_cases k1 : kn K a = 2
  · rw [if_pos k1]
    by_cases k2 : kn K (a + 1) = 0
    · rw [if_pos k2]
      have l1 := kn_lt (K := K) (i := a + 1) (by rw [k2]; decide)
      by_cases k3 : kn K (a + 2) = 15
      · rw [if_pos k3]
        have l2 := kn_lt (K := K) (i := a + 2) (by rw [k3]; decide)
        have e1 : wts K (a + 3) = wts K a + 3 + 1 + 1 := by
          show wts K a + wtk (kn K a) + wtk (kn K (a + 1)) + wtk (kn K (a + 2)) = _
          rw [k1, k2, k3]
          rfl
        refine ⟨by show a + 3 ≤ _; omega, ?_, ?_, ?_, ?_, ?_⟩
        · show (C ++ [mk 1 (a + 1) 0]).length + 0 ≤ 3 * (a + 3)
          rw [len1]
          omega
        · show E.length + 0 ≤ a + 3
          omega
        · show 5 * Fn.length ≤ a + 3
          omega
        · show 5 * (U ++ [_]).length ≤ wts K (a + 3)
          rw [len1]
          omega
        · exact i6.snoc (mk_w (by decide) (by omega) (by decide))
      · rw [if_neg k3]
        exact bad (a + 2) (by omega) (by omega)
    · rw [if_neg k2]
      exact bad (a + 1) (by omega) (by omega)
  · rw [if_neg k1]
    by_cases k2 : kn K a = 3
    · rw [if_pos k2]
      obtain ⟨f1, f2, f3⟩ := fnh_le ha
      by_cases k3 : (fnh K a).1 = true
      · rw [if_pos k3]
        obtain ⟨f4, f5⟩ := f3 k3
        have := wts_mo (K := K) (a := a) ((fnh K a).2.1 + 1 - a)
        rw [show a + ((fnh K a).2.1 + 1 - a) = (fnh K a).2.1 + 1 by omega] at this
        have hp : (fnh K a).2.2 < 32768 := by
          have : ∀ (d a p : Nat), (hdr K d a p).2.2 ≤ p + d := by
            intro d
            induction d with
            | zero => intro a p; exact Nat.le_refl _
            | succ d ih =>
              intro a p
              rw [hdr_succ]
              repeat' split
              all_goals first | (have := ih (a + 2) (p + 1); omega) | (show p + 1 ≤ _; omega) | (show p ≤ _; omega)
          have h2 := this K.length (a + 3) 0
          unfold fnh
          repeat' split
          all_goals first | omega | (show 0 < 32768; decide)
        refine ⟨f4, ?_, ?_, ?_, ?_, ?_⟩
        · show (C ++ [_, _]).length + (2 + 0) ≤ 3 * ((fnh K a).2.1 + 1)
          rw [len2]
          omega
        · show E.length + 1 ≤ (fnh K a).2.1 + 1
          omega
        · show 5 * (Fn ++ [_]).length ≤ (fnh K a).2.1 + 1
          rw [List.length_append, List.length_singleton]
          omega
        · show 5 * U.length ≤ wts K ((fnh K a).2.1 + 1)
          omega
        · exact i6.two (mk_w (by decide) (by omega) hp) (mk_w (by decide) (by omega) (by decide))
      · rw [if_neg k3]
        exact bad _ (by omega) f1
    · rw [if_neg k2]
      exact PI_bad h (skI_mv ha (fun e => by
        unfold bgn at e
        rw [decide_eq_true_iff] at e
        rcases e with e | e | e
        · exact k2 e
        · exact k1 e
        · exact hN a ha e)) (by omega)
theorem PI_pel {q st : Int} (hK : K.length ≤ 195) (h : PI K (a, S, C, E, Fn, U)) : PI K (pel K a q st S C E Fn U) := by
  have i1 : a ≤ K.length := h.1
  have i2 : C.length + pns S ≤ 3 * a := h.2.1
  have i3 : E.length + S.length ≤ a := h.2.2.1
  have i6 : W32 C := h.2.2.2.2.2
  unfold pel
  by_cases k1 : q = 2 ∧ kn K a = 6
  · rw [if_pos k1]
    have l1 := kn_lt (K := K) (i := a) (by rw [k1.2]; decide)
    by_cases k2 : kn K (a + 1) = 12
    · rw [if_pos k2]
      have l2 := kn_lt (K := K) (i := a + 1) (by rw [k2]; decide)
      refine PI_up h (by omega) (by omega) ?_ ?_ (((i6.snoc (mk_w (by decide) (by omega) (by decide))).ai (by omega)).snoc (mk_w (by decide) (by omega) (by decide))) rfl
      · rw [len1, aim_len, len1]
        show _ + (1 + pns S) ≤ _
        omega
      · rw [List.length_cons]
        omega
    · rw [if_neg k2]
      have s1 := skS_ge K (K.length - (a + 1)) (a + 1)
      have s2 := skS_le K (K.length - (a + 1)) (a + 1)
      refine PI_up h (by omega) (by omega) (by omega) ?_ i6 rfl
      rw [List.length_append, List.length_singleton]
      omega
  · rw [if_neg k1]
    exact h
theorem PI_pcb {cl : Bool} {q st : Int} (hK : K.length ≤ 195) (h : PI K (a, (q, st) :: S, C, E, Fn, U)) (hcl : cl = true → a < K.length) : PI K (pcb K a cl q st S C E Fn U) := by
  have i1 : a ≤ K.length := h.1
  have i2 : C.length + ((if q = 0 then 2 else 1) + pns S) ≤ 3 * a := h.2.1
  have i3 : E.length + (S.length + 1) ≤ a := h.2.2.1
  have i6 : W32 C := h.2.2.2.2.2
  rw [pcb_pc2]
  obtain ⟨a2, ea⟩ : ∃ a2, a2 = if cl = true then a + 1 else a := ⟨_, rfl⟩
  obtain ⟨E2, eE⟩ : ∃ E2 : EE, E2 = if cl = true then E else E ++ [((a : Int), -1, -1)] := ⟨_, rfl⟩
  obtain ⟨o, eo⟩ : ∃ o : Nat, o = if cl = true then 1 else 0 := ⟨_, rfl⟩
  rw [← ea, ← eE, ← eo]
  have h1 : a ≤ a2 ∧ a2 ≤ K.length ∧ E2.length ≤ E.length + 1 ∧ o ≤ 1 := by
    cases cl with
    | true => have := hcl rfl; rw [if_pos rfl] at ea eE eo; subst ea eE eo; exact ⟨by omega, by omega, by omega, by omega⟩
    | false => rw [if_neg (by decide)] at ea eE eo; subst ea eE eo; exact ⟨by omega, by omega, by rw [List.length_append]; exact Nat.le_refl _, by omega⟩
  have w1 : W32 (C ++ [mk 4 a o]) := i6.snoc (mk_w (by decide) (by omega) (by omega))
  unfold pc2
  split
  · next e =>
    rw [if_pos e] at i2
    exact PI_pel hK (PI_up h h1.1 h1.2.1 (by rw [len1, len1]; omega) (by omega) (w1.snoc (mk_w (by decide) (by decide) (by decide))) setLast_len)
  · next e =>
    rw [if_neg e] at i2
    split
    · exact PI_pel hK (PI_up h h1.1 h1.2.1 (by rw [len1]; omega) (by omega) w1 rfl)
    · exact PI_pel hK (PI_up h h1.1 h1.2.1 (by rw [aim_len, len1]; omega) (by omega) (w1.ai (by rw [len1]; omega)) rfl)
def SO (K : List Int) (a : Nat) (W : List Int) (x : Bool × Nat × List Int) : Prop := a ≤ x.2.1 ∧ x.2.1 ≤ K.length ∧ Px W x.2.2 ∧ (x.1 = true → a + 1 ≤ x.2.1 ∧ x.2.2.length + (a + 1) ≤ W.length + x.2.1 ∧ (kn K a = 5 → x.2.1 < K.length))
theorem SO_no {e : Nat} (h1 : a ≤ e) (h2 : e ≤ K.length) : SO K a W (false, e, W) := ⟨h1, h2, Px.rf, fun h => absurd h (by decide : ¬ false = true)⟩
theorem SO_fi {s m : Nat} {k : Int} {x : XS} (h : EO K W.length s W x) (hs : a + 1 ≤ s + m) (hs2 : a ≤ s) (hk : k ≠ 24) (hm : m ≤ 1) (h5 : kn K a = 5 → m = 0) : SO K a W (fi K x k m) := by
  obtain ⟨h0, h1, h2, h3, h4⟩ := h
  by_cases e : x.1 = 3 ∧ kn K x.2.1 = k
  · have l1 := kn_lt (K := K) (i := x.2.1) (by rw [e.2]; exact hk)
    rw [fi_y e]
    refine ⟨by show a ≤ x.2.1 + m; omega, by show x.2.1 + m ≤ _; omega, h4, fun _ => ⟨by show a + 1 ≤ x.2.1 + m; omega, ?_, fun k5 => ?_⟩⟩
    · show x.2.2.2.length + (a + 1) ≤ W.length + (x.2.1 + m)
      omega
    · have := h5 k5
      show x.2.1 + m < _
      omega
  · rw [fi_n e]
    exact ⟨by show a ≤ x.2.1; omega, h2, h4, fun h => absurd h (by decide : ¬ false = true)⟩
theorem SO_sth (hK : K.length ≤ 195) (ha : a < K.length) : SO K a W (sth K a W) := by
  rw [sth_fi]
  have ex : ∀ s, s ≤ K.length → EO K W.length s W (exr K false s W) := fun s hs => exr_ok hK hs (fun e => absurd e (by decide))
  by_cases k5 : kn K a = 5
  · rw [if_pos k5]
    exact SO_fi (ex (a + 1) ha) (by omega) (by omega) (by decide) (by decide) (fun _ => rfl)
  · rw [if_neg k5]
    by_cases k7 : kn K a = 7
    · rw [if_pos k7]
      exact SO_fi (ex (a + 1) ha) (by omega) (by omega) (by decide) (by decide) (fun h => absurd h k5)
    · rw [if_neg k7]
      by_cases kc : kn K a = 0 ∧ kn K (a + 1) = 10
      · rw [if_pos kc]
        have l1 := kn_lt (K := K) (i := a + 1) (by rw [kc.2]; decide)
        exact SO_fi (exr_ok hK (by omega) (fun _ => l1)) (by omega) (by omega) (by decide) (by decide) (fun h => absurd h k5)
      · rw [if_neg kc]
        obtain ⟨s, es⟩ : ∃ s, s = if kn K a = 4 then a + 1 else a := ⟨_, rfl⟩
        have hs : a ≤ s ∧ s ≤ K.length := by
          rw [es]
          split <;> omega
        rw [← es]
        by_cases k1 : kn K s = 0
        · rw [if_pos k1]
          have l1 := kn_lt (K := K) (i := s) (by rw [k1]; decide)
          by_cases k2 : kn K (s + 1) = 16
          · rw [if_pos k2]
            have l2 := kn_lt (K := K) (i := s + 1) (by rw [k2]; decide)
            exact SO_fi (ex (s + 2) (by omega)) (by omega) (by omega) (by decide) (by decide) (fun h => absurd h k5)
          · rw [if_neg k2]
            exact SO_no (by omega) (by omega)
        · rw [if_neg k1]
          exact SO_no (by omega) (by omega)
theorem PI_pst {q st : Int} (hK : K.length ≤ 195) (h : PI K (a, (q, st) :: S, C, E, Fn, U)) : PI K (pst K a q st S C E Fn U) := by
  have i1 : a ≤ K.length := h.1
  have i2 : C.length + pns ((q, st) :: S) ≤ 3 * a := h.2.1
  have i3 : E.length + ((q, st) :: S).length ≤ a := h.2.2.1
  have i6 : W32 C := h.2.2.2.2.2
  rw [pst_psx]
  by_cases k1 : kn K a = 13
  · rw [if_pos k1]
    exact PI_pcb hK h (fun _ => kn_lt (by rw [k1]; decide))
  rw [if_neg k1]
  by_cases k2 : bgn (kn K a) = true
  · rw [if_pos k2]
    exact PI_pcb hK h (fun e => absurd e (by decide))
  rw [if_neg k2]
  have hlt : a < K.length := kn_lt (fun e => k2 (by rw [e]; decide))
  have m6 := mk_w (o := 6) (p := a) (e := 0) (by decide) (by omega) (by decide)
  by_cases k3 : kn K a = 12
  · rw [if_pos k3]
    refine PI_up h (by omega) hlt ?_ ?_ (i6.two m6 (mk_w (by decide) (by omega) (by decide))) rfl
    · rw [len2]
      show _ + (1 + pns ((q, st) :: S)) ≤ _
      omega
    · rw [List.length_cons]
      omega
  rw [if_neg k3]
  have hx := SO_sth (W := C ++ [mk 6 a 0]) hK hlt
  obtain ⟨x, ex⟩ : ∃ x, x = sth K a (C ++ [mk 6 a 0]) := ⟨_, rfl⟩
  rw [← ex] at hx ⊢
  obtain ⟨o, e, V⟩ := x
  obtain ⟨x1, x2, x3, x4⟩ := hx
  change a ≤ e at x1
  change e ≤ K.length at x2
  change Px (C ++ [mk 6 a 0]) V at x3
  have wv : W32 V := x3.w32 (i6.snoc m6)
  unfold psx
  cases o with
  | false =>
    rw [if_pos rfl]
    have s1 := skS_ge K (K.length - e) e
    have s2 := skS_le K (K.length - e) e
    have s3 : a + 1 ≤ skS K (K.length - e) e := by
      by_cases q1 : a = e
      · rw [← q1]
        exact skS_mv hlt k3 k1 k2
      · omega
    refine PI_up h (by show a ≤ skS K (K.length - e) e; omega) (by show skS K (K.length - e) e ≤ _; omega) ?_ ?_ (i6.snoc (mk_w (by decide) (by omega) (by decide))) rfl
    · rw [len1]
      show _ ≤ 3 * skS K (K.length - e) e
      omega
    · rw [List.length_append, List.length_singleton]
      show _ ≤ skS K (K.length - e) e
      omega
  | true =>
    obtain ⟨y1, y2, y3⟩ := x4 rfl
    change a + 1 ≤ e at y1
    change V.length + (a + 1) ≤ (C ++ [mk 6 a 0]).length + e at y2
    rw [len1] at y2
    rw [if_neg (show ¬ true = false by decide)]
    by_cases k5 : kn K a = 5
    · have y4 : e < K.length := y3 k5
      rw [if_pos k5]
      refine PI_up h (by show a ≤ e + 1; omega) (by show e + 1 ≤ _; omega) ?_ ?_ (wv.two (mk_w (by decide) (by omega) (by decide)) (mk_w (by decide) (by show e < 256; omega) (by decide))) rfl
      · rw [len2]
        show V.length + 2 + (1 + pns ((q, st) :: S)) ≤ 3 * (e + 1)
        omega
      · rw [List.length_cons]
        show _ ≤ e + 1
        omega
    · rw [if_neg k5]
      by_cases k4 : kn K a = 4
      · rw [if_pos k4]
        refine PI_up h (by show a ≤ e; omega) x2 ?_ (by show _ ≤ e; omega) (wv.snoc (mk_w (by decide) (by omega) (by show e - 1 < 32768; omega))) rfl
        rw [len1]
        show V.length + 1 + _ ≤ 3 * e
        omega
      · rw [if_neg k4]
        refine PI_up h (by show a ≤ e; omega) x2 ?_ (by show _ ≤ e; omega) (wv.snoc (mk_w (by split <;> (try split) <;> decide) (by omega) (by decide))) rfl
        rw [len1]
        show V.length + 1 + _ ≤ 3 * e
        omega
theorem PI_pstep {x : PS} (hK : K.length ≤ 195) (hN : ∀ i, i < K.length → kn K i ≠ 24) (h : PI K x) (h1 : x.1 < K.length ∨ x.2.1 ≠ []) : PI K (pstep K x) := by
  obtain ⟨a, S, C, E, Fn, U⟩ := x
  cases S with
  | nil =>
    refine PI_pit hK hN h ?_
    rcases h1 with h1 | h1
    · exact h1
    · exact absurd rfl h1
  | cons y S =>
    obtain ⟨q, st⟩ := y
    exact PI_pst hK h
theorem prun_succ {d : Nat} {x : PS} : prun K (d + 1) x = if x.1 < K.length ∨ x.2.1 ≠ [] then prun K d (pstep K x) else x := rfl
theorem PI_prun (hK : K.length ≤ 195) (hN : ∀ i, i < K.length → kn K i ≠ 24) : ∀ (d : Nat) (x : PS), PI K x → PI K (prun K d x) := by
  intro d
  induction d with
  | zero => intro x h; exact h
  | succ d ih =>
    intro x h
    rw [prun_succ]
    split
    · next e => exact ih _ (PI_pstep hK hN h e)
    · exact h
theorem l_58 (hX : RX n t b z K) (hN : ∀ i, i < K.length → kn K i ≠ 24) (hw : wts K K.length ≤ 199) : ∀ (d : Nat) (x : PS) (F : MF), d ≤ 600 → PI K x → St F → RCp F n t b K x →
    L_58_44 n (600 - (d : Int)) F (PQ n t b K F (prun K d x)) m_no := by
  have hK := hX.2.2.2.2.1
  intro d
  induction d with
  | zero =>
    intro x F hd hi hS h
    exact b_58_44 hX.1 hS ⟨fun h0 => by omega, fun _ => ⟨fr.rf, h⟩⟩
  | succ d ih =>
    intro x F hd hi hS h
    have hi' := hi
    obtain ⟨a, S, C, E, Fn, U⟩ := x
    obtain ⟨i1, i2, i3, i4, i5, i6⟩ := hi'
    change a ≤ K.length at i1
    change C.length + pns S ≤ 3 * a at i2
    change E.length + S.length ≤ a at i3
    change 5 * Fn.length ≤ a at i4
    change 5 * U.length ≤ wts K a at i5
    change RC F n t b K a S C E Fn U at h
    have hu := wts_mo (K := K) (a := a) (K.length - a)
    rw [show a + (K.length - a) = K.length by omega] at hu
    have go : ∀ F2, St F2 → (a < K.length ∨ S ≠ []) → PQ n t b K F (pstep K (a, S, C, E, Fn, U)) F2 → (-2147483648 ≤ ((600 - ((d + 1 : Nat) : Int)) + 1) ∧ ((600 - ((d + 1 : Nat) : Int)) + 1) < 2147483648) ∧ L_58_44 n ((600 - ((d + 1 : Nat) : Int)) + 1) F2 (PQ n t b K F (prun K (d + 1) (a, S, C, E, Fn, U))) m_no := by
      rintro F2 hS2 hc ⟨k1, k2⟩
      have := ih _ F2 (by omega) (PI_pstep hK hN hi hc) hS2 k2
      rw [show (600 : Int) - (d : Int) = 600 - ((d + 1 : Nat) : Int) + 1 by omega] at this
      rw [prun_succ, if_pos hc]
      exact ⟨by omega, EvV.mono this (fun F' _ k => ⟨k1.tr k.1, k.2⟩) (fun _ _ _ h => h)⟩
    have g68 : ∀ q st S', S = (q, st) :: S' → C_68 n F (fun F11 => (-2147483648 ≤ ((600 - ((d + 1 : Nat) : Int)) + 1) ∧ ((600 - ((d + 1 : Nat) : Int)) + 1) < 2147483648) ∧ L_58_44 n ((600 - ((d + 1 : Nat) : Int)) + 1) F11 (PQ n t b K F (prun K (d + 1) (a, S, C, E, Fn, U))) m_no) m_no := by
      rintro q st S' rfl
      rw [List.length_cons] at i3
      refine CaV.on (s_68 hX hS h i1 (by omega) i6 (by omega) (by omega) (by omega)) ?_
      intro F2 hS2 k
      exact go F2 hS2 (Or.inr (fun e => by cases e)) k
    refine b_58_44 hX.1 hS ⟨fun _ => ?_, fun h0 => by omega⟩
    rw [h.1.2.1, h.2.1, h.2.2.1.1]
    have hcons : (0 : Int) < (S.length : Int) → ∃ q st S', S = (q, st) :: S' := by
      intro h0
      cases S with
      | nil => exact absurd h0 (by decide)
      | cons y S' => obtain ⟨q, st⟩ := y; exact ⟨q, st, S', rfl⟩
    have hnil : ¬ (0 : Int) < (S.length : Int) → S = [] := by
      intro h0
      cases S with
      | nil => rfl
      | cons y S' => rw [List.length_cons] at h0; omega
    refine ⟨fun c1 => ⟨fun c2 => ?_, fun c2 => ?_⟩, fun c1 => ⟨fun c2 => ?_, fun c2 => ?_⟩⟩
    · obtain ⟨q, st, S', e⟩ := hcons c2
      exact g68 q st S' e
    · obtain rfl := hnil c2
      refine CaV.on (s_62 hX hS h (by omega) (by omega) (by omega) (by omega) (by omega)) ?_
      intro F2 hS2 k
      exact go F2 hS2 (Or.inl (by omega)) k
    · obtain ⟨q, st, S', e⟩ := hcons c2
      exact g68 q st S' e
    · obtain rfl := hnil c2
      rw [prun_succ, if_neg (fun e => by
        rcases e with e | e
        · have e : a < K.length := e
          omega
        · exact e rfl)]
      exact ⟨fr.rf, h⟩
end M69
