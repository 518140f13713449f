/-! THE SHAPE OF THE WORDS OF A FILE -/
def SK1 (k : Nat) (w : Int) (k1 : Nat) : Prop :=
  (wo w = 14 ∧ k1 = k + 1) ∨ (wo w = 16 ∧ 1 ≤ k ∧ k1 = k) ∨ (wo w = 17 ∧ 2 ≤ k ∧ k1 + 1 = k) ∨ (wo w = 18 ∧ 1 ≤ k ∧ k1 = k) ∨ (wo w = 15 ∧ ∃ m : Nat, we w = (m : Int) ∧ m ≤ k ∧ k1 = k - m + 1) ∨
  ((wo w = 7 ∨ wo w = 8 ∨ wo w = 9 ∨ wo w = 10 ∨ wo w = 11) ∧ k = 1 ∧ k1 = 0) ∨ (((1 ≤ wo w ∧ wo w ≤ 6) ∨ wo w = 12 ∨ wo w = 13) ∧ k = 0 ∧ k1 = 0)
def SK : Nat → List Int → Nat → Prop
  | k, [], k' => k' = k
  | k, w :: W, k' => ∃ k1, SK1 k w k1 ∧ SK k1 W k'
def bx (w : Int) : Nat := if 14 ≤ wo w then 1 else 0
def BXv (x : PS) : Prop := sm bx x.2.2.1 ≤ x.1
section M9x
variable {F G : MF} {K : List Int} {X : Nat → List Int} {f vf : Nat} {s : SS}
/-- what is looked at of all rows of chars: somewhere it stands -/
theorem bx_le : ∀ D : List Int, sm bx D ≤ D.length
  | [] => Nat.le_refl _
  | w :: D => by
    have := bx_le D
    have h1 : bx w ≤ 1 := by unfold bx; split <;> decide
    show bx w + sm bx D ≤ (w :: D).length
    rw [List.length_cons]
    omega
theorem bx_mk {o t e : Nat} (h : o < 14) : bx (mk o t e) = 0 := by
  unfold bx
  rw [wo_mk (by omega), if_neg (by omega)]
theorem bx_aim {C : List Int} {i p : Nat} (hj : jp C i) : sm bx (aim C (i : Int) p) = sm bx C := by
  rw [aim_set hj.1]
  refine sm_set C i hj.1 ?_
  have h := hj.2
  have e : wo (gx C i % 65536 + 65536 * (p : Int)) = wo (gx C i) := by unfold wo; omega
  unfold bx
  rw [e]
theorem BX_pel {a : Nat} {q st : Int} {S : List (Int × Int)} {C : List Int} {E : EE} {Fn : FF} {U : List Int} (h : sm bx C ≤ a) (hst : q = 2 → ∃ i : Nat, st = (i : Int) ∧ jp C i) : BXv (pel K a q st S C E Fn U) := by
  unfold BXv pel
  split
  · next e =>
    obtain ⟨i, rfl, hj⟩ := hst e.1
    split
    · show sm bx (aim (C ++ [mk 12 a 0]) (i : Int) (C.length + 1) ++ [mk 3 (a + 1) 0]) ≤ a + 2
      rw [sm_app, bx_aim hj.app, sm_app]
      show sm bx C + (bx (mk 12 a 0) + 0) + (bx (mk 3 (a + 1) 0) + 0) ≤ a + 2
      rw [bx_mk (by decide), bx_mk (by decide)]
      omega
    · show sm bx C ≤ skS K (K.length - (a + 1)) (a + 1)
      have := skS_ge K (K.length - (a + 1)) (a + 1)
      omega
  · exact h
theorem BX_pcb {a : Nat} {cl1 : Bool} {q st : Int} {S : List (Int × Int)} {C : List Int} {E : EE} {Fn : FF} {U : List Int} (hV : PSo ((q, st) :: S) C) (h : sm bx C ≤ a) : BXv (pcb K a cl1 q st S C E Fn U) := by
  rw [pcb_pc2]
  have hge : a ≤ (if cl1 = true then a + 1 else a) := by split <;> omega
  generalize (if cl1 = true then a + 1 else a) = a2 at hge
  have k2 : PSo ((q, st) :: S) (C ++ [mk 4 a (if cl1 = true then 1 else 0)]) := hV.app
  have h2 : sm bx (C ++ [mk 4 a (if cl1 = true then 1 else 0)]) ≤ a2 := by
    rw [sm_app]
    show sm bx C + (bx (mk 4 a _) + 0) ≤ a2
    rw [bx_mk (by decide)]
    omega
  generalize C ++ [mk 4 a (if cl1 = true then 1 else 0)] = C2 at k2 h2
  unfold pc2
  split
  · refine BX_pel ?_ (fun h => by omega)
    rw [sm_app]
    show sm bx C2 + (bx (mk 5 0 0) + 0) ≤ a2
    rw [bx_mk (by decide)]
    omega
  · split
    · exact BX_pel h2 (fun h => by omega)
    · rcases k2 (q, st) (List.mem_cons_self) with hq | ⟨i, e, hj⟩
      · change q = 0 ∨ q = 1 at hq
        omega
      · change st = (i : Int) at e
        subst e
        exact BX_pel (by rw [bx_aim hj]; exact h2) (fun _ => ⟨i, rfl, hj.aim hj.1⟩)
theorem BX_pst {a : Nat} {q st : Int} {S : List (Int × Int)} {C : List Int} {E : EE} {Fn : FF} {U : List Int} (hK : K.length ≤ 195) (hV : PSo ((q, st) :: S) C) (h : sm bx C ≤ a) : BXv (pst K a q st S C E Fn U) := by
  rw [pst_psx]
  by_cases h13 : kn K a = 13
  · rw [if_pos h13]
    exact BX_pcb hV h
  rw [if_neg h13]
  by_cases hb : bgn (kn K a) = true
  · rw [if_pos hb]
    exact BX_pcb hV h
  rw [if_neg hb]
  have hl : a < K.length := kn_lt (fun e => hb (by rw [e]; decide))
  by_cases h12 : kn K a = 12
  · rw [if_pos h12]
    show sm bx (C ++ [mk 6 a 0, mk 3 a 0]) ≤ a + 1
    rw [sm_app]
    show sm bx C + (bx (mk 6 a 0) + (bx (mk 3 a 0) + 0)) ≤ a + 1
    rw [bx_mk (by decide), bx_mk (by decide)]
    omega
  rw [if_neg h12]
  have so := SO_sth (W := C ++ [mk 6 a 0]) hK hl
  have hd := sth_D (C := C) hK hl
  revert so hd
  generalize sth K a (C ++ [mk 6 a 0]) = x
  obtain ⟨ok, e, V⟩ := x
  intro so hd
  have s1 : a ≤ e := so.1
  unfold psx
  cases ok with
  | false =>
    rw [if_pos rfl]
    show sm bx (C ++ [mk 13 a 0]) ≤ skS K (K.length - e) e
    have := skS_ge K (K.length - e) e
    rw [sm_app]
    show sm bx C + (bx (mk 13 a 0) + 0) ≤ _
    rw [bx_mk (by decide)]
    omega
  | true =>
    rw [if_neg (show ¬ (true : Bool) = false by decide)]
    obtain ⟨D, d1, -⟩ := hd rfl
    change V = C ++ mk 6 a 0 :: D at d1
    have s3 : V.length + (a + 1) ≤ (C ++ [mk 6 a 0]).length + e := (so.2.2.2 rfl).2.1
    have hDl := bx_le D
    have hVb : sm bx V ≤ e := by
      rw [d1, List.length_append, List.length_append, List.length_cons, List.length_singleton] at s3
      rw [d1, sm_app]
      show sm bx C + (bx (mk 6 a 0) + sm bx D) ≤ e
      rw [bx_mk (by decide)]
      omega
    have ap : ∀ (o t q : Nat), o < 14 → sm bx (V ++ [mk o t q]) ≤ e := fun o t q ho => by
      rw [sm_app]
      show sm bx V + (bx (mk o t q) + 0) ≤ e
      rw [bx_mk ho]
      omega
    split
    · show sm bx (V ++ [mk 11 a 0, mk 3 e 0]) ≤ e + 1
      rw [sm_app]
      show sm bx V + (bx (mk 11 a 0) + (bx (mk 3 e 0) + 0)) ≤ e + 1
      rw [bx_mk (by decide), bx_mk (by decide)]
      omega
    · split
      · exact ap 7 _ _ (by decide)
      · exact ap _ _ _ (by split <;> (try split) <;> decide)
theorem BX_prun (hK : K.length ≤ 195) (hN : ∀ i, i < K.length → kn K i ≠ 24) : ∀ (d : Nat) (x : PS), PI K x → PV K x → BXv x → BXv (prun K d x) := by
  intro d
  induction d with
  | zero => intro x _ _ h; exact h
  | succ d ih =>
    intro x hP hV h
    rw [prun_succ]
    split
    · next e =>
      refine ih _ (PI_pstep hK hN hP e) (PV_pstep hK hV e hP.1) ?_
      obtain ⟨a, S, C, E, Fn, U⟩ := x
      cases S with
      | nil =>
        rcases e with e | e
        · change sm bx C ≤ a at h
          show BXv (pit K a C E Fn U)
          have bad : ∀ (q : Nat) (E' : EE), a ≤ q → BXv (skI K (K.length - q) q, [], C, E', Fn, U) := fun q E' hq => by
            show sm bx C ≤ skI K (K.length - q) q
            have := skI_ge K (K.length - q) q
            omega
          by_cases k3 : kn K a = 3
          · rw [pit_fn k3]
            have hl := fnh_le (K := K) (a := a) e
            split
            · show sm bx (C ++ [mk 2 (a + 1) _, mk 3 _ 0]) ≤ _ + 1
              rw [sm_app]
              show sm bx C + (bx (mk 2 (a + 1) _) + (bx (mk 3 _ 0) + 0)) ≤ _
              rw [bx_mk (by decide), bx_mk (by decide)]
              omega
            · exact bad _ _ (by omega)
          · unfold pit
            split
            · split
              · split
                · show sm bx (C ++ [mk 1 (a + 1) 0]) ≤ a + 3
                  rw [sm_app]
                  show sm bx C + (bx (mk 1 (a + 1) 0) + 0) ≤ a + 3
                  rw [bx_mk (by decide)]
                  omega
                · exact bad _ _ (by omega)
              · exact bad _ _ (by omega)
            · exact bad a _ (Nat.le_refl _)
        · exact absurd rfl e
      | cons y S =>
        obtain ⟨q, st⟩ := y
        exact BX_pst hK hV.2.1 h
    · exact h
theorem Cw_bx (hX : ∀ r, r < 24 → Rok (X r)) (hf : f < 3) : sm bx (Cw X f) ≤ 192 := by
  have h1 := ks_len hX hf
  have h2 : ∀ i, i < (ks X f).length → kn (ks X f) i ≠ 24 := fun i hi => ks_no hX hf hi
  have h3 : sm bx (prun (ks X f) 600 (0, [], [], [], [], [])).2.2.1 ≤ (prun (ks X f) 600 (0, [], [], [], [], [])).1 := BX_prun (by omega) h2 600 _ PI_0 PV_0 (Nat.le_refl _)
  have h4 := (PI_prun (by omega) h2 600 _ PI_0).1
  show sm bx (prun (ks X f) 600 (0, [], [], [], [], [])).2.2.1 ≤ 192
  omega
end M9x
