/-! CALLS THAT LOOK: brackets, colours, functions, runs, repairs -/
/-- an error has no run, or one of tokens -/
def EV (K : List Int) (E : EE) : Prop := ∀ e ∈ E, (e.2.1 = -1 ∧ e.2.2 = -1) ∨ ∃ a b : Nat, e.2.1 = (a : Int) ∧ e.2.2 = (b : Int) ∧ a ≤ b ∧ b < K.length
noncomputable def clr (X : Nat → List Int) (f k : Nat) : Int := if kn (ks X f) k = 0 then (if bnd X (200 * f + k) = -1 then 5 else if isF X (bnd X (200 * f + k)).toNat = true then 3 else 4) else if kn (ks X f) k = 1 then 6 else if kn (ks X f) k = 23 then 8 else if kn (ks X f) k < 10 then 2 else 7
noncomputable def aCl (X : Nat → List Int) (x y z : Int) : Int := if gx (owns X x.toNat y.toNat) z.toNat = -2 then 1 else if gx (owns X x.toNat y.toNat) z.toNat < 0 then 0 else clr X x.toNat (gx (owns X x.toNat y.toNat) z.toNat).toNat
noncomputable def aRu (X : Nat → List Int) (x1 x2 x y : Int) : Int := (rrun X 1000000 (ren X (200 * x1.toNat + fnt X x1.toNat x2.toNat) 2 [] [y, x] 0 0)).getD 0
section Mn5
variable {F G : MF} {X Y S : Nat → List Int} {N K : List Int} {L : List CH} {d : Bool} {e : Int} {f m k n q top : Nat} {x1 x2 x3 x4 x y : Int} {nn : Nat → Nat}
theorem EV.snoc {E : EE} {u : Int × Int × Int} (h : EV K E) (hu : (u.2.1 = -1 ∧ u.2.2 = -1) ∨ ∃ a b : Nat, u.2.1 = (a : Int) ∧ u.2.2 = (b : Int) ∧ a ≤ b ∧ b < K.length) : EV K (E ++ [u]) := fun v hv => by
  rcases List.mem_append.mp hv with c | c
  · exact h v c
  · rw [List.mem_singleton.mp c]; exact hu
theorem EV_pit {a : Nat} {C : List Int} {E : EE} {Fn : FF} {U : List Int} (h : EV K E) : EV K (pit K a C E Fn U).2.2.2.1 := by
  unfold pit
  dsimp only
  repeat' split
  all_goals first | exact h | exact h.snoc (Or.inl ⟨rfl, rfl⟩)
theorem EV_pel {a : Nat} {b st : Int} {Q : List (Int × Int)} {C : List Int} {E : EE} {Fn : FF} {U : List Int} (h : EV K E) : EV K (pel K a b st Q C E Fn U).2.2.2.1 := by
  unfold pel
  repeat' split
  all_goals first | exact h | exact h.snoc (Or.inl ⟨rfl, rfl⟩)
theorem EV_pcb {a : Nat} {cl : Bool} {b st : Int} {Q : List (Int × Int)} {C : List Int} {E : EE} {Fn : FF} {U : List Int} (h : EV K E) : EV K (pcb K a cl b st Q C E Fn U).2.2.2.1 := by
  have hE : EV K (if cl = true then E else E ++ [((a : Int), -1, -1)]) := by
    split
    · exact h
    · exact h.snoc (Or.inl ⟨rfl, rfl⟩)
  unfold pcb
  dsimp only
  by_cases c0 : b = 0
  · rw [if_pos c0]; exact EV_pel hE
  · rw [if_neg c0]
    by_cases c1 : b = 1
    · rw [if_pos c1]; exact EV_pel hE
    · rw [if_neg c1]; exact EV_pel hE
theorem EV_pst {a : Nat} {b st : Int} {Q : List (Int × Int)} {C : List Int} {E : EE} {Fn : FF} {U : List Int} (hK : K.length ≤ 195) (h : EV K E) : EV K (pst K a b st Q C E Fn U).2.2.2.1 := by
  rw [pst_psx]
  by_cases k1 : kn K a = 13
  · rw [if_pos k1]
    exact EV_pcb h
  rw [if_neg k1]
  by_cases k2 : bgn (kn K a) = true
  · rw [if_pos k2]
    exact EV_pcb h
  rw [if_neg k2]
  have hlt : a < K.length := kn_lt (fun e => k2 (by rw [e]; decide))
  by_cases k3 : kn K a = 12
  · rw [if_pos k3]
    exact h
  rw [if_neg k3]
  have hx := SO_sth (W := C ++ [mk 6 a 0]) hK hlt
  obtain ⟨x, ex⟩ : ∃ x, x = sth K a (C ++ [mk 6 a 0]) := ⟨_, rfl⟩
  rw [← ex] at hx ⊢
  obtain ⟨o, e, V⟩ := x
  obtain ⟨x1, x2, -⟩ := hx
  change a ≤ e at x1
  change e ≤ K.length at x2
  unfold psx
  cases o with
  | false =>
    rw [if_pos rfl]
    have s1 := skS_ge K (K.length - e) e
    have s2 := skS_le K (K.length - e) e
    have s3 : a + 1 ≤ skS K (K.length - e) e := by
      by_cases q1 : a = e
      · rw [← q1]
        exact skS_mv hlt k3 k1 k2
      · omega
    exact h.snoc (Or.inr ⟨a, skS K (K.length - e) e - 1, rfl, by show ((skS K (K.length - e) e : Nat) : Int) - 1 = _; omega, by omega, by omega⟩)
  | true =>
    rw [if_neg (show ¬ true = false by decide)]
    repeat' split
    all_goals exact h
theorem EV_run (hK : K.length ≤ 195) : ∀ (d : Nat) (x : PS), EV K x.2.2.2.1 → EV K (prun K d x).2.2.2.1 := by
  intro d
  induction d with
  | zero => intro x h; exact h
  | succ d ih =>
    intro x h
    rw [prun_succ]
    split
    · refine ih _ ?_
      obtain ⟨a, Q, C, E, Fn, U⟩ := x
      cases Q with
      | nil => exact EV_pit h
      | cons y Q =>
        obtain ⟨b, st⟩ := y
        exact EV_pst hK h
    · exact h
theorem Ew_run (hX : ∀ r, r < 24 → Rok (X r)) (hf : f < 3) (hk : k < (Ew X f).length) : ((ge (Ew X f) k).2.1 = -1 ∧ (ge (Ew X f) k).2.2 = -1) ∨ ∃ a b : Nat, (ge (Ew X f) k).2.1 = (a : Int) ∧ (ge (Ew X f) k).2.2 = (b : Int) ∧ a ≤ b ∧ b < (toks X f).length := by
  have hK := ks_len hX hf
  have h : EV (ks X f) (Ew X f) := EV_run (by omega) 600 (0, [], [], [], [], []) (fun e he => absurd he (List.not_mem_nil))
  have hm : ge (Ew X f) k ∈ Ew X f := by
    unfold ge
    rw [List.getD_eq_getElem?_getD, List.getElem?_eq_getElem hk]
    exact List.getElem_mem hk
  rcases h _ hm with c | ⟨a, b, c1, c2, c3, c4⟩
  · exact Or.inl c
  · rw [ks_len'] at c4
    exact Or.inr ⟨a, b, c1, c2, c3, c4⟩
/-- the function at a place, with its name and how many it takes -/
theorem l_291b {R : Int → MF → Prop} (hS : St F) : ∀ (I : List IT) (x : Int) (c lo i : Nat), ItC F K top x c lo I (-1) → i ≤ lo → ((¬ ∃ j, j < (fnsO F c I).length ∧ x2 = ((i + j : Nat) : Int)) → R (-1) F) →
    (∀ (j : Nat) (it : IT), it ∈ I → it.2.1 = 2 → it.1 < 1600 → F 222 it.1 = (it.2.2.1 : Int) → j < (fnsO F c I).length → x2 = ((i + j : Nat) : Int) → gx ((fnsO F c I).map (fun e => e.1)) j = (it.2.2.1 : Int) → gx ((fnsO F c I).map (fun e => e.2.1)) j = (it.2.2.2.1 : Int) → R (it.1 : Int) F) → L_291_23 x2 (i : Int) x F R m_no
  | [], x, c, lo, i, h, _, h1, _ => by
    obtain rfl : x = -1 := h.1
    exact b_291_23 hS ⟨fun _ => h1 (fun ⟨j, hj, _⟩ => absurd hj (Nat.not_lt_zero j)), fun h => absurd rfl h⟩
  | it :: I, x, c, lo, i, ⟨hx, hi, hP, hr⟩, hl, h1, h2 => by
    subst hx
    obtain ⟨q0, q1, q2, q3, q4⟩ := hP
    refine b_291_23 hS ⟨fun h => by omega, fun _ => ⟨by omega, ?_⟩⟩
    rw [Int.toNat_natCast]
    rcases q1 with ⟨a1, a2, -⟩ | ⟨a1, a2, a3, -⟩
    · have e : fnsO F c (it :: I) = fnsO F (c + it.2.2.2.2.2.length) I := by
        show (if it.2.1 = 2 then _ else []) ++ _ = _
        rw [if_neg (by omega)]
        rfl
      rw [e] at h1 h2
      refine ⟨fun h => by omega, fun _ => ⟨by omega, ?_⟩⟩
      exact l_291b hS I _ _ _ i hr (by omega) h1 (fun j it' k0 => h2 j it' (List.mem_cons_of_mem _ k0))
    · have e : fnsO F c (it :: I) = ((it.2.2.1 : Int), (it.2.2.2.1 : Int), (c : Int), F 228 it.2.2.2.2.1) :: fnsO F (c + it.2.2.2.2.2.length) I := by
        show (if it.2.1 = 2 then _ else []) ++ _ = _
        rw [if_pos a1]
        rfl
      rw [e] at h1 h2
      refine ⟨fun _ => ⟨fun e2 => ?_, fun e2 => ⟨by omega, by omega, ?_⟩⟩, fun h => absurd a2 h⟩
      · exact h2 0 it List.mem_cons_self a1 q0 a3 (by rw [List.length_cons]; omega) (by omega) rfl rfl
      · rw [show (i : Int) + 1 = ((i + 1 : Nat) : Int) by omega]
        refine l_291b hS I _ _ _ (i + 1) hr (by omega) (fun h => h1 (fun ⟨j, hj, h4⟩ => ?_)) (fun j it' k0 k1 k2 k3 k4 k5 k6 k7 => h2 (j + 1) it' (List.mem_cons_of_mem _ k0) k1 k2 k3 (by rw [List.length_cons]; omega) (by omega) k6 k7)
        cases j with
        | zero => omega
        | succ j => exact h ⟨j, by rw [List.length_cons] at hj; omega, by omega⟩
theorem s_291b (hS : St F) (hX : TxM F X) : C_291 x1 x2 F (fun r F' => ((r = -1 ∧ ¬ isFu X x1 x2) ∨ ∃ (f j v p n : Nat) (nn : Nat → Nat), f < 3 ∧ x1 = (f : Int) ∧ x2 = (j : Int) ∧ j < (Fw X f).length ∧ r = (v : Int) ∧ v + n < 1600 ∧ LKd F' X nn ∧ PM F' v p n ∧ F' 222 v = (p : Int) ∧ gx ((Fw X f).map (fun e => e.1)) j = (p : Int) ∧ gx ((Fw X f).map (fun e => e.2.1)) j = (n : Int)) ∧ KQ F F' ∧ F' 201 15 = F 201 15) m_no := by
  refine c_291 hS ⟨fun h => ?_, fun h => ⟨Or.inl ⟨rfl, fun ⟨f, k, a, b, c, _⟩ => h (p_f3.mpr ⟨f, a, c⟩)⟩, KQ.rf, rfl⟩⟩
  obtain ⟨f, hf, rfl⟩ := p_f3.mp h
  refine CaV.on (s_262 hS hX) ?_
  rintro F1 hS1 ⟨lk, nn, hK⟩
  have e15 : F1 201 15 = F 201 15 := lk.1 15 (by omega) (by omega) (by omega)
  rw [Int.toNat_natCast]
  refine ⟨by omega, ?_⟩
  obtain ⟨I, i1, ih⟩ := hK.2.2 f (by omega)
  have i1' := i1
  obtain ⟨i1, i2, -, -⟩ := i1
  refine l_291b hS1 I _ _ _ 0 i1 (by omega) (fun h => ?_) (fun j it k0 k1 k2 k3 k4 k5 k6 k7 => ?_)
  · rw [i2] at h
    refine ⟨Or.inl ⟨rfl, fun ⟨f', k, a, b, c, c2⟩ => ?_⟩, lk.kq, e15⟩
    have e1 : f' = f := by omega
    subst e1
    exact h ⟨k, b, by omega⟩
  · rw [i2] at k4 k6 k7
    obtain ⟨_, L, W1, o⟩ := HIt.fo I _ ih it k0 k1
    exact ⟨Or.inr ⟨f, j, it.1, it.2.2.1, it.2.2.2.1, nn, hf, rfl, by omega, k4, rfl, o.2.2.2.2.2.2.1, hK, o.2.2.2.2.2.1, k3, k6, k7⟩, lk.kq, e15⟩
theorem r_369 (hS : St F) (h : KR F X S N L d e) : C_369 x1 x2 F (RO F (isFu X x1 x2) (aFu X x1 x2) X S N L d e) m_no := by
  refine c_369 hS (CaI.on (s_291b hS h.1) ?_)
  rintro r F1 hS1 ⟨⟨rfl, hn⟩ | ⟨f, j, v, p, n, nn, hf, rfl, rfl, hj, rfl, hv, hK, hP, h222, g1, g2⟩, hq, h15⟩
  · exact ⟨fun _ => RO.nay h hq.u15 hn u_eq, fun c => absurd rfl c⟩
  · have b1 := fnt_ok h.hX hf hj
    have b2 : 0 ≤ gx ((Fw X f).map (fun e => e.2.1)) j ∧ gx ((Fw X f).map (fun e => e.2.1)) j < 256 := by
      rw [ge_map hj]
      exact fn_par h.hX hf (List.getElem_mem hj)
    have b3 := b1.2.2
    have e1 : p = fnt X f j := by omega
    have hP2 : PM (m_up F1 201 15 0) v p n := by
      unfold PM
      rw [up_row (by decide), up_row (by decide), up_row (by decide), up_row (by decide)]
      exact hP
    rw [Int.toNat_natCast, h222]
    refine ⟨fun c => by omega, fun _ => ⟨by omega, by omega, by omega, ?_⟩⟩
    have s := s_269p (hS1.fld kd_201 rk_12_15) hP2 hv
    rw [up_row (by decide)] at s
    refine CaI.on s ?_
    rintro r F2 hS2 ⟨rfl, rfl⟩
    refine ⟨by omega, RO.yea h hq.u15 ⟨f, j, hf, hj, rfl, rfl⟩ u_eq ?_⟩
    simp only [aFu, Int.toNat_natCast]
    rw [g1, g2]
/-- a run ends -/
theorem rrun_ok (hS : St F) (hX : ∀ r, r < 24 → Rok (X r)) (hf : f < 3) (hk : k < (Fw X f).length) (x y : Int) : rrun X 1000000 (ren X (200 * f + fnt X f k) 2 [] [y, x] 0 0) = some (aRu X (f : Int) (k : Int) x y) := by
  obtain ⟨G, nn, hSG, hG⟩ := ex_look hS hX
  obtain ⟨_, o, G2, _, _, _, _, _, h3, h4⟩ := s_290 (x := x) (y := y) hSG hG.1.1 hf hk (m_hg 290) (Nat.le_refl _) 0 0
  rcases h4 with ⟨z, -, -, h4⟩ | ⟨e, -, h4⟩
  · unfold aRu
    rw [Int.toNat_natCast, Int.toNat_natCast, h4]
    rfl
  · exact h4.elim
theorem f_178 (hS : St F) (h : KC F X S N L d e) : C_178 x1 x2 x y F (CO F (isFu X x1 x2) (aRu X x1 x2 x y) X S N L d e) (CT F (isFu X x1 x2) X S N L d e) := by
  refine c_178 hS (s_185 hS h (fun F1 f k hS1 hK hD hC hf hk e1 e2 => ?_) (fun F1 _ hK hC hn => CT.of hK hC hn))
  subst e1
  subst e2
  have le := Fw_len h.hX hf
  have b1 := fnt_ok h.hX hf hk
  have t1 := (db_tree hD hf).2.2.1.2.1 k (by rw [List.length_map]; exact hk)
  rw [Int.toNat_natCast, Int.toNat_natCast, t1, b1.2.2, show (f : Int) * 200 + ((fnt X f k : Nat) : Int) = ((200 * f + fnt X f k : Nat) : Int) by omega]
  refine ⟨by omega, by omega, by omega, by omega, ?_⟩
  refine CaL.on (s_81 (n := 1) (by decide) hS1 h.hX hD.1 hD.2 (by omega) (by rw [show (200 * f + fnt X f k) / 200 = f by omega, show (200 * f + fnt X f k) % 200 = fnt X f k by omega]; exact b1.2.1) (rrun_ok hS1 h.hX hf hk x y)) ?_
  rintro r F2 hS2 ⟨rfl, u⟩
  have kp : KP F1 F2 := u.kp (fun c hc => by unfold RunP at hc; omega)
  exact ⟨⟨f, k, hf, hk, rfl, rfl⟩, rfl, hK.kp kp, hC.tr kp.cn⟩
theorem r_290 (hS : St F) (h : KR F X S N L d e) : C_290 x1 x2 x y F (RO F (isFu X x1 x2) (aRu X x1 x2 x y) X S N L d e) m_no := by
  by_cases hp : isFu X x1 x2
  · obtain ⟨f, k, hf, hk, rfl, rfl⟩ := hp
    refine CaL.on (s_290 hS h.1 hf hk) ?_
    rintro z F' hS' ⟨⟨F1, nn, r1, r2, r3⟩, r4⟩
    refine RO.yea h ((r1.kq.u15).tr r3.kq) ⟨f, k, hf, hk, rfl, rfl⟩ (by rw [r3.2 15 (by decide) (by decide) (by decide) (by decide), u_eq]) ?_
    have := rrun_ok hS h.hX hf hk x y
    rw [r4] at this
    exact Option.some.inj this
  · refine c_290 hS (CaI.on (s_291b hS h.1) ?_)
    rintro r F1 hS1 ⟨⟨rfl, hn⟩ | ⟨f, j, v, p, n, nn, hf, e1, e2, hj, -⟩, hq, h15⟩
    · exact ⟨fun _ => RO.nay h hq.u15 hn u_eq, fun c => absurd rfl c⟩
    · exact absurd ⟨f, j, hf, hj, e1, e2⟩ hp
end Mn5
