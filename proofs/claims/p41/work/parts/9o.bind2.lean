/-! BINDING OF THE CLASS: all words of a file, all files -/
section M9o
variable {F : MF} {X : Nat → List Int} {f g k n : Nat} {s : SS} {w : Int} {B : Nat → Int}
/-- the length of rows -/
theorem Fw_len (hX : ∀ r, r < 24 → Rok (X r)) (hf : f < 3) : (Fw X f).length ≤ 40 ∧ (Uw X f).length ≤ 40 ∧ (Cw X f).length ≤ 640 ∧ W32 (Cw X f) := by
  have h1 := ks_len hX hf
  have h2 := ks_wt hX hf
  obtain ⟨p1, p2, p3, p4, p5, p6⟩ := (Cw_pv hX hf).2
  change 5 * (Fw X f).length ≤ _ at p4
  change 5 * (Uw X f).length ≤ _ at p5
  change (Cw X f).length + _ ≤ _ at p2
  have h3 : wts (ks X f) (prs (ks X f)).1 ≤ wts (ks X f) (ks X f).length := by
    have := wts_mo (K := ks X f) (a := (prs (ks X f)).1) ((ks X f).length - (prs (ks X f)).1)
    rw [show (prs (ks X f)).1 + ((ks X f).length - (prs (ks X f)).1) = (ks X f).length by omega] at this
    omega
  exact ⟨by omega, by omega, by omega, p6⟩
theorem bwd_1 {id : Nat} (h : bset X f w ((id : Int) - 200 * (f : Int))) : bwd X f s w B id = bval X f s w id := by unfold bwd; exact if_pos h
theorem bwd_0 {id : Nat} (h : ¬ bset X f w ((id : Int) - 200 * (f : Int))) : bwd X f s w B id = B id := by unfold bwd; exact if_neg h
theorem l_13 {id m : Nat} (hn : n ∈ m_I1) (hid : id + 2 * m < 600) : ∀ (d i : Nat) (G : MF), i + d = m → St G → (∀ c, c ≠ n + 7 → G c = F c) → (∀ j : Nat, G (n + 7) j = if ∃ q, q < i ∧ j = id + 2 + 2 * q then (j : Int) else F (n + 7) j) →
    L_13_2 n (id : Int) (m : Int) (i : Int) G (fun F' => (∀ c, c ≠ n + 7 → F' c = F c) ∧ ∀ j : Nat, F' (n + 7) j = if ∃ q, q < m ∧ j = id + 2 + 2 * q then (j : Int) else F (n + 7) j) m_no := by
  intro d
  induction d with
  | zero =>
    intro i G hi hS hz hb
    obtain rfl : i = m := by omega
    exact b_13_2 hn hS ⟨fun h => by omega, fun _ => ⟨hz, hb⟩⟩
  | succ d ih =>
    intro i G hi hS hz hb
    refine b_13_2 hn hS ⟨fun _ => ⟨by omega, by omega, by omega, fun _ => ⟨by omega, by omega, ?_⟩, fun h => absurd (by omega) h⟩, fun h => by omega⟩
    rw [show (id : Int) + 2 + 2 * (i : Int) = ((id + 2 + 2 * i : Nat) : Int) by omega, Int.toNat_natCast, show (i : Int) + 1 = ((i + 1 : Nat) : Int) by omega]
    refine ih (i + 1) _ (by omega) (hS.arr (ka_1_3 hn) (by decide)) (fun c hc => by rw [up_row hc, hz c hc]) (fun j => ?_)
    by_cases e : j = id + 2 + 2 * i
    · rw [e, u_eq, if_pos ⟨i, by omega, rfl⟩]
    · rw [u_ne (Or.inr e), hb j]
      by_cases h : ∃ q, q < i ∧ j = id + 2 + 2 * q
      · obtain ⟨q, h1, h2⟩ := h
        rw [if_pos ⟨q, h1, h2⟩, if_pos ⟨q, by omega, h2⟩]
      · rw [if_neg h, if_neg]
        rintro ⟨q, h1, h2⟩
        exact h ⟨q, by omega, h2⟩
theorem l_12 (hn : n ∈ m_I1) (hX : ∀ r, r < 24 → Rok (X r)) (hf : f < 3) : ∀ (d i : Nat) (F : MF), i + d = (Cw X f).length → St F → DTT F n X → SCc F (n + 8) (sat (Cw X f) i) → (∀ id, id < 600 → F (n + 7) id = bat X f B i id) →
    L_12_23 n (f : Int) (n + (20 + 19 * f)) ((f : Int) * 200) (i : Int) F (fun F' => DTT F' n X ∧ (∀ id, id < 600 → F' (n + 7) id = bat X f B (Cw X f).length id) ∧ fr (fun c => n + 7 ≤ c ∧ c ≤ n + 10) F F') m_no := by
  have lk := toks_len hX hf
  have hl := Fw_len hX hf
  have hF : ∀ f, f < 3 → (Fw X f).length ≤ 40 := fun f hf => (Fw_len hX hf).1
  have i9 := i9_of hn hf
  have i7 := io_1_5 hn
  have pv := (Cw_pv hX hf).1.1
  intro d
  induction d with
  | zero =>
    intro i F hi hS hD hs hb
    obtain rfl : i = (Cw X f).length := by omega
    have hc : F (n + (20 + 19 * f)) 1 = ((Cw X f).length : Int) := (hD.2 f hf).2.1.1
    refine b_12_23 hn i9 hS ?_
    rw [hc]
    exact ⟨fun h => by omega, fun _ => ⟨hD, hb, fr.rf⟩⟩
  | succ d ih =>
    intro i F hi hS hD hs hb
    have hi2 : i < (Cw X f).length := by omega
    have hc : F (n + (20 + 19 * f)) 1 = ((Cw X f).length : Int) := (hD.2 f hf).2.1.1
    have hcw : F (n + (20 + 19 * f) + 1) i = gx (Cw X f) i := (hD.2 f hf).2.1.2 i hi2
    have w32 := hl.2.2.2 i hi2
    have so := sat_ok (C := Cw X f) (fun i hi => Cw_wc hX hf hi) hX hf (i + 1) (by omega)
    have so0 := sat_ok (C := Cw X f) (fun i hi => Cw_wc hX hf hi) hX hf i (by omega)
    have sm7 : sm b7 ((Cw X f).take i) ≤ 195 ∧ sm b3 ((Cw X f).take i) ≤ 195 ∧ sm b7 ((Cw X f).take (i + 1)) ≤ 195 := by
      have l1 : (prs (ks X f)).1 ≤ (ks X f).length := (Cw_pv hX hf).2.1
      have l2 := ks_len hX hf
      have l3 := pv.2.2.1
      have l4 := pv.2.2.2
      change sm b3 (Cw X f) ≤ _ at l3
      change sm b7 (Cw X f) ≤ _ at l4
      have q1 := sm_take (g := b7) (Cw X f) i
      have q2 := sm_take (g := b3) (Cw X f) i
      have q3 := sm_take (g := b7) (Cw X f) (i + 1)
      omega
    obtain ⟨o, t, e, e1, e2, e3⟩ := Cw_wc hX hf hi2
    have ho : o < 256 := by unfold oX at e3; omega
    have w1 := wo_mk (o := o) (t := t) (e := e) ho
    have w2 := wt_mk (o := o) (t := t) (e := e) ho e2
    have w3 := we_mk (o := o) (t := t) (e := e) ho e2
    have ew : ∀ F, g_198 F (gx (Cw X f) i) = (o : Int) := fun F => by rw [g198 w32, e1, w1]
    have et : ∀ F, g_199 F (gx (Cw X f) i) = (t : Int) := fun F => by rw [g199 w32, e1, w2]
    have ee : ∀ F, g_200 F (gx (Cw X f) i) = (e : Int) := fun F => by rw [g200 w32, e1, w3]
    have eb : ∀ id, bat X f B (i + 1) id = bwd X f (sat (Cw X f) (i + 1)) (mk o t e) (bat X f B i) id := fun id => by
      show bwd X f (sat (Cw X f) (i + 1)) (gx (Cw X f) i) (bat X f B i) id = _
      rw [e1]
    have esat : sat (Cw X f) (i + 1) = sstep (sat (Cw X f) i) (gx (Cw X f) i) := rfl
    have htk : (o = 7 ∨ o = 8 ∨ o = 14 ∨ o = 15 ∨ o = 2) → t < (toks X f).length := fun h => kn_tok (by
      rcases e3 with h2 | h2 | h2 | h2 | h2 | h2
      · unfold oX kp at h2; omega
      · omega
      · have := h2.2 0 (Nat.zero_le _)
        rw [show t + 2 * 0 = t by omega] at this
        omega
      · omega
      · omega
      · omega)
    have idt : (f : Int) * 200 + (t : Int) = ((200 * f + t : Nat) : Int) := by omega
    refine b_12_23 hn i9 hS ?_
    rw [hc, Int.toNat_natCast, hcw, ew, et]
    refine ⟨fun _ => ⟨by omega, ?_⟩, fun h => by omega⟩
    refine CaV.on (s_101 i7 hS w32 hs (by omega) (by omega)) ?_
    rintro F3 hS3 ⟨sc3, fr3⟩
    rw [← esat] at sc3
    have hD3 : DTT F3 n X := hD.fr fr3 (fun c h => by omega)
    have hb3 : ∀ id, F3 (n + 7) id = F (n + 7) id := fun id => by rw [fr3 (n + 7) (by omega)]
    have fr3' : fr (fun c => n + 7 ≤ c ∧ c ≤ n + 10) F F3 := fr3.mo (fun c h => by omega)
    -- the next word
    have go : ∀ G : MF, St G → (∀ c, c ≠ n + 7 → G c = F3 c) → (∀ id, id < 600 → G (n + 7) id = bat X f B (i + 1) id) → L_12_23 n (f : Int) (n + (20 + 19 * f)) ((f : Int) * 200) ((i : Int) + 1) G (fun F' => DTT F' n X ∧ (∀ id, id < 600 → F' (n + 7) id = bat X f B (Cw X f).length id) ∧ fr (fun c => n + 7 ≤ c ∧ c ≤ n + 10) F F') m_no := by
      intro G hSG hz hbG
      have hfG : fr (fun c => c = n + 7) F3 G := fun c hc => hz c hc
      have sc4 : SCc G (n + 8) (sat (Cw X f) (i + 1)) := by
        unfold SCc at sc3 ⊢
        rw [hz (n + 8) (by omega), hz (n + 8 + 1) (by omega), hz (n + 8 + 2) (by omega)]
        exact sc3
      have := ih (i + 1) G (by omega) hSG (hD3.fr hfG (fun c h => by omega)) sc4 hbG
      rw [show ((i + 1 : Nat) : Int) = (i : Int) + 1 by omega] at this
      refine EvV.mono this ?_ (fun _ _ _ h => h)
      rintro F' _ ⟨h1, h2, h3⟩
      exact ⟨h1, h2, (fr3'.tr (hfG.mo (fun c h => by omega))).tr h3⟩
    have one : ∀ (v : Int), (o = 7 ∨ o = 8 ∨ o = 14 ∨ o = 15) → (o = 14 → kn (ks X f) t = 0) → bval X f (sat (Cw X f) (i + 1)) (mk o t e) (200 * f + t) = v → ∀ id, id < 600 → m_up F3 (n + 7) (200 * f + t) v (n + 7) id = bat X f B (i + 1) id := by
      intro v h7 h14 hv id hid
      have t1 := htk (by omega)
      rw [eb]
      by_cases e4 : id = 200 * f + t
      · subst e4
        rw [u_eq, bwd_1, hv]
        refine ⟨Or.inr ⟨by rw [w1]; omega, by rw [w2]; omega⟩, fun h => ?_⟩
        rw [w1] at h
        rw [w2, Int.toNat_natCast]
        exact h14 (by omega)
      · rw [u_ne (Or.inr e4), hb3, hb id hid, bwd_0]
        rintro ⟨h | h, -⟩
        · rw [w1] at h; omega
        · rw [w2] at h; omega
    have none' : (o ≠ 2 ∧ o ≠ 7 ∧ o ≠ 8 ∧ o ≠ 14 ∧ o ≠ 15) ∨ (o = 14 ∧ kn (ks X f) t ≠ 0) → ∀ id, id < 600 → F3 (n + 7) id = bat X f B (i + 1) id := by
      intro h id hid
      rw [eb, hb3, hb id hid, bwd_0]
      rintro ⟨h2, h3⟩
      unfold tin at h2
      rw [w1] at h2 h3
      rw [w2, Int.toNat_natCast] at h3
      omega
    have byname : (o = 8 ∨ (o = 14 ∧ kn (ks X f) t = 0)) → L_12_178 n (f : Int) (n + (20 + 19 * f)) ((f : Int) * 200) (i : Int) (t : Int) F3 (fun F' => DTT F' n X ∧ (∀ id, id < 600 → F' (n + 7) id = bat X f B (Cw X f).length id) ∧ fr (fun c => n + 7 ≤ c ∧ c ≤ n + 10) F F') m_no := by
      intro h
      have t1 := htk (by omega)
      refine b_12_178 hn i9 hS3 ?_
      refine CaI.on (s_102 i7 hn hS3 hX hD3.dt hf t1 sc3 so.2.2.1 (by omega) so.2.2.2) ?_
      rintro r F4 hS4 ⟨rfl, rfl⟩
      rw [idt, Int.toNat_natCast]
      have hv : bval X f (sat (Cw X f) (i + 1)) (mk o t e) (200 * f + t) = if fst' X f t (cand (sat (Cw X f) (i + 1))) = -1 then -1 else 200 * (f : Int) + fst' X f t (cand (sat (Cw X f) (i + 1))) := by
        unfold bval
        rw [w1, w2, Int.toNat_natCast, if_neg (by omega), if_pos (by omega)]
      refine ⟨by omega, fun h1 => ⟨by omega, by omega, ?_⟩, fun h1 => ?_⟩
      · exact go _ (hS4.arr (ka_1_3 hn) (by decide)) (fun c hc => up_row hc) (one _ (by omega) (by omega) (by rw [hv, if_pos h1]))
      · rcases fst_rng (k := t) so.2.2.1 with h2 | ⟨m, h2, h3⟩
        · exact absurd h2 h1
        · rw [h2]
          refine ⟨by omega, by omega, by omega, ?_⟩
          exact go _ (hS4.arr (ka_1_3 hn) (by decide)) (fun c hc => up_row hc) (one _ (by omega) (by omega) (by rw [hv, if_neg h1, h2]; omega))
    rw [idt, Int.toNat_natCast, ee]
    refine ⟨fun k2 => ?_, fun k2 => ⟨fun k7 => ?_, fun k7 => ⟨fun k15 => ?_, fun k15 => ⟨fun k8 => byname (Or.inl (by omega)), fun k8 => ⟨fun k14 => ?_, fun k14 => ?_⟩⟩⟩⟩⟩
    · have t1 := htk (by omega)
      have hpar : ∀ j, j ≤ e → t + 2 * j < (toks X f).length := fun j hj => kn_tok (by
        rcases e3 with h2 | h2 | h2 | h2 | h2 | h2
        · unfold oX at h2; omega
        · omega
        · rw [h2.2 j hj]; decide
        · omega
        · omega
        · omega)
      have he := hpar e (Nat.le_refl _)
      refine ⟨by omega, by omega, by omega, by omega, ?_⟩
      refine c_13 hn (hS3.arr (ka_1_3 hn) (by decide)) ?_
      refine EvV.mono (l_13 (F := m_up F3 (n + 7) (200 * f + t) ((200 * f + t : Nat) : Int)) (id := 200 * f + t) (m := e) hn (by omega) e 0 _ (by omega) (hS3.arr (ka_1_3 hn) (by decide)) (fun _ _ => rfl) (fun j => ?_)) ?_ (fun _ _ _ h => h)
      · rw [if_neg]
        rintro ⟨q, h, -⟩
        exact absurd h (Nat.not_lt_zero q)
      rintro F4 hS4 ⟨z4, b4⟩
      refine ⟨by omega, go F4 hS4 (fun c hc => by rw [z4 c hc, up_row hc]) (fun id hid => ?_)⟩
      rw [eb, b4 id]
      have val : bval X f (sat (Cw X f) (i + 1)) (mk o t e) id = (id : Int) := by
        unfold bval
        rw [w1, if_neg (by omega), if_neg (by omega)]
      by_cases h1 : ∃ q, q < e ∧ id = 200 * f + t + 2 + 2 * q
      · rw [if_pos h1, bwd_1, val]
        obtain ⟨q, q1, q2⟩ := h1
        refine ⟨Or.inl ⟨by rw [w1]; omega, by rw [w2]; omega, by rw [w2, w3]; omega, by rw [w2]; omega⟩, fun h => by rw [w1] at h; omega⟩
      · rw [if_neg h1]
        by_cases h2 : id = 200 * f + t
        · rw [h2, u_eq, bwd_1, ← h2, val, h2]
          refine ⟨Or.inl ⟨by rw [w1]; omega, by rw [w2]; omega, by rw [w2, w3]; omega, by rw [w2]; omega⟩, fun h => by rw [w1] at h; omega⟩
        · rw [u_ne (Or.inr h2), hb3, hb id hid, bwd_0]
          rintro ⟨h | h, -⟩
          · rw [w2, w3] at h
            refine h1 ⟨(id - (200 * f + t) - 2) / 2, by omega, by omega⟩
          · rw [w1] at h; omega
    · have t1 := htk (by omega)
      refine ⟨by omega, by omega, by omega, by omega, ?_⟩
      exact go _ (hS3.arr (ka_1_3 hn) (by decide)) (fun c hc => up_row hc) (one _ (by omega) (by omega) (by unfold bval; rw [w1, if_neg (by omega), if_neg (by omega)]))
    · have t1 := htk (by omega)
      refine ⟨by omega, by omega, ?_⟩
      refine CaI.on (s_14 hn hS3 hX hD3 hf t1 hF hl.2.1) ?_
      rintro r F4 hS4 ⟨rfl, rfl⟩
      refine ⟨by omega, by omega, ?_⟩
      exact go _ (hS4.arr (ka_1_3 hn) (by decide)) (fun c hc => up_row hc) (one _ (by omega) (by omega) (by unfold bval; rw [w1, w2, Int.toNat_natCast, if_pos (by omega)]))
    · have t1 := htk (by omega)
      have g1 := gac_tok (hD3.2 f hf).1 t1
      have hc4 : F3 (n + (11 + 19 * f)) 8 = ((toks X f).length : Int) := (hD3.2 f hf).1.1.1
      have g104 : g_104 F3 (n + (11 + 19 * f)) (t : Int) = kn (ks X f) t := by
        unfold g_104
        rw [if_neg (by omega), hc4, if_pos (by omega), Int.toNat_natCast, g1.1]
      have o104 : o_104 F3 (n + (11 + 19 * f)) (t : Int) := ⟨fun _ => trivial, fun _ => ⟨fun _ => ⟨by omega, trivial⟩, fun _ => trivial⟩⟩
      rw [Int.toNat_natCast, g104]
      refine ⟨by omega, o104, fun h0 => byname (Or.inr ⟨by omega, h0⟩), fun h0 => ⟨by omega, ?_⟩⟩
      exact go F3 hS3 (fun _ _ => rfl) (none' (Or.inr ⟨by omega, h0⟩))
    · refine ⟨by omega, ?_⟩
      exact go F3 hS3 (fun _ _ => rfl) (none' (Or.inl (by omega)))
theorem s_12 (hn : n ∈ m_I1) (hX : ∀ r, r < 24 → Rok (X r)) (hf : f < 3) (hS : St F) (hD : DTT F n X) (hb : ∀ id, id < 600 → F (n + 7) id = B id) :
    C_12 n (f : Int) F (fun F' => DTT F' n X ∧ (∀ id, id < 600 → F' (n + 7) id = bat X f B (Cw X f).length id) ∧ fr (fun c => n + 7 ≤ c ∧ c ≤ n + 10) F F') m_no := by
  have i7 := io_1_5 hn
  refine c_12 hn hS ⟨by omega, by omega, ?_⟩
  refine c_100 i7 hS ?_
  rw [Int.toNat_natCast]
  obtain ⟨G, hG⟩ : ∃ G, G = m_up (m_up (m_up (m_up F (n + 8) 2 0) (n + 8) 3 0) (n + 8) 4 (-1)) (n + 8) 5 0 := ⟨_, rfl⟩
  have hSG : St G := by rw [hG]; exact (((hS.fld (ok_7 i7) rk_7_2).fld (ok_7 i7) rk_7_3).fld (ok_7 i7) rk_7_4).fld (ok_7 i7) rk_7_5
  have hfG : fr (fun c => c = n + 8) F G := by rw [hG]; exact (((fr.rf.up (by rfl)).up (by rfl)).up (by rfl)).up (by rfl)
  have w2 : G (n + 8) 2 = 0 := by rw [hG, u_ne (Or.inr (by decide)), u_ne (Or.inr (by decide)), u_ne (Or.inr (by decide)), u_eq]
  have w3 : G (n + 8) 3 = 0 := by rw [hG, u_ne (Or.inr (by decide)), u_ne (Or.inr (by decide)), u_eq]
  have w4 : G (n + 8) 4 = -1 := by rw [hG, u_ne (Or.inr (by decide)), u_eq]
  have w5 : G (n + 8) 5 = 0 := by rw [hG, u_eq]
  rw [← hG]
  refine EvV.mono (l_12 (B := B) hn hX hf (Cw X f).length 0 G (by omega) hSG (hD.fr hfG (fun c h => by omega)) ⟨⟨w2, fun i hi => absurd hi (Nat.not_lt_zero i)⟩, ⟨w3, fun i hi => absurd hi (Nat.not_lt_zero i)⟩, w4, w5⟩ (fun id hid => by rw [hfG (n + 7) (by omega)]; exact hb id hid)) ?_ (fun _ _ _ h => h)
  rintro F' _ ⟨h1, h2, h3⟩
  exact ⟨h1, h2, (hfG.mo (fun c h => by omega)).tr h3⟩
/-- a desk whose tokens, trees and names are made -/
def DB (F : MF) (n : Nat) (X : Nat → List Int) : Prop := DTT F n X ∧ ∀ id, id < 600 → F (n + 7) id = bnd X id
theorem s_11 (hn : n ∈ m_I1) (hS : St F) (hL : LinC F (n + 1) X) : C_11 n F (fun F' => DB F' n X ∧ F' n 6 = 0 ∧ fr (fun c => c = n ∨ (n + 7 ≤ c ∧ c ≤ n + 78)) F F' ∧ ∀ j, j ≠ 6 → F' n j = F n j) m_no := by
  have hX : ∀ r, r < 24 → Rok (X r) := fun r hr => (hL r hr).2.1
  refine c_11 hn hS ?_
  refine l_11 hn hX 3 0 F rfl hS hL (fun f h => absurd h (Nat.not_lt_zero f)) ?_
  intro F1 hS1 hG1 hf1
  refine CaV.on (s_433 (a := n + 7) (z := 600) (v := -1) (ka_1_3 hn) (by decide) hS1) ?_
  rintro F2 hS2 ⟨h2, f2⟩
  have hD1 : DTT F1 n X := ⟨hL.fr hf1 (by unfold DP; omega) (by unfold DP; omega), hG1⟩
  have hD2 : DTT F2 n X := hD1.fr f2 (fun c h => by omega)
  refine b_11_68 hn hS2 ⟨fun _ => ?_, fun h => absurd (by decide) h⟩
  refine CaV.on (s_12 (f := 0) (B := fun _ => -1) hn hX (by decide) hS2 hD2 (fun id hid => h2 id hid)) ?_
  rintro F3 hS3 ⟨d3, b3, f3⟩
  refine ⟨by decide, b_11_68 hn hS3 ⟨fun _ => ?_, fun h => absurd (by decide) h⟩⟩
  refine CaV.on (s_12 (f := 1) hn hX (by decide) hS3 d3 b3) ?_
  rintro F4 hS4 ⟨d4, b4, f4⟩
  refine ⟨by decide, b_11_68 hn hS4 ⟨fun _ => ?_, fun h => absurd (by decide) h⟩⟩
  refine CaV.on (s_12 (f := 2) hn hX (by decide) hS4 d4 b4) ?_
  rintro F5 hS5 ⟨d5, b5, f5⟩
  refine ⟨by decide, b_11_68 hn hS5 ⟨fun h => absurd h (by decide), fun _ => ?_⟩⟩
  have fa : fr (fun c => n + 7 ≤ c ∧ c ≤ n + 78) F F5 := ((((hf1.mo (fun c h => by unfold DP at h; omega)).tr (f2.mo (fun c h => by omega))).tr (f3.mo (fun c h => by omega))).tr (f4.mo (fun c h => by omega))).tr (f5.mo (fun c h => by omega))
  have f6 : fr (fun c => c = n) F5 (m_up F5 n 6 0) := fr.rf.up (by rfl)
  refine ⟨⟨d5.fr f6 (fun c h => by omega), fun id hid => by rw [u_ne (Or.inl (by omega))]; exact b5 id hid⟩, u_eq, (fa.mo (fun c h => Or.inr h)).tr (f6.mo (fun c h => Or.inl h)), fun j hj => ?_⟩
  rw [u_ne (Or.inr hj), fa n (by omega)]
end M9o
