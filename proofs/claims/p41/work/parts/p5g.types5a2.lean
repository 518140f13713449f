/-! TYPES, OF THE CLASS: all files -/
section Ma2
variable {F F0 G : MF} {X : Nat → List Int} {f g n k1 : Nat} {w : Int}
theorem sk_dir (hk : SK1 g w k1) : wo w < 14 → k1 = (if wo w = 7 ∨ wo w = 8 ∨ wo w = 9 ∨ wo w = 10 ∨ wo w = 11 then 0 else g) := fun h => by
  unfold SK1 at hk
  split <;> omega
theorem trun_inv (hX : ∀ r, r < 24 → Rok (X r)) (hf : f < 3) : ∀ (W : List Int) (fn : Nat) (h : Nat → Nat) (st : List (Nat × Int)) (E : List Int) (k : Nat), (∀ w ∈ W, WC (ks X f) w) → SK st.length W k → (∀ a ∈ st, a.1 < 602) → TI k (E.length + st.length + 2 * sm bx W) (trun X f W fn (h, st, E))
  | [], fn, h, st, E, k, _, hk, hl => TI.mk (show st.length = k from Eq.symm hk) hl (by show E.length + st.length ≤ _; omega)
  | w :: W, fn, h, st, E, k, hw, ⟨k1, h1, h2⟩, hl => by
    have t := tst_inv (fn := fnw f w fn) (h := h) (E := E) hX hf (hw w (List.mem_cons_self)) h1 hl
    show TI k (E.length + st.length + 2 * (bx w + sm bx W)) (trun X f W (fnw f w fn) (tstep X f (fnw f w fn) w (h, st, E)))
    revert t
    generalize tstep X f (fnw f w fn) w (h, st, E) = y
    obtain ⟨h', st', E'⟩ := y
    rintro ⟨t1, t2, t3⟩
    change st'.length = k1 at t1
    change E'.length + st'.length ≤ _ at t3
    obtain ⟨u1, u2, u3⟩ := trun_inv hX hf W (fnw f w fn) h' st' E' k (fun v hv => hw v (List.mem_cons_of_mem _ hv)) (by rw [t1]; exact h2) t2
    exact ⟨u1, u2, by omega⟩
theorem tfil_inv (hSh : Shp X) (hX : ∀ r, r < 24 → Rok (X r)) : ∀ f, f ≤ 3 → TI 0 (384 * f) (tfil X f)
  | 0, _ => TI.mk rfl (fun a h => absurd h (List.not_mem_nil)) (Nat.le_refl _)
  | f + 1, hf => by
    have ih := tfil_inv hSh hX f (by omega)
    show TI 0 (384 * (f + 1)) (trun X f (Cw X f) 0 (tfil X f))
    revert ih
    generalize tfil X f = y
    obtain ⟨h', st', E'⟩ := y
    rintro ⟨t1, t2, t3⟩
    change st'.length = 0 at t1
    change E'.length + st'.length ≤ _ at t3
    obtain ⟨u1, u2, u3⟩ := trun_inv hX (show f < 3 by omega) (Cw X f) 0 h' st' E' 0 (Cw_pv hX (by omega)).1.1.1 (by rw [t1]; exact (hSh f (by omega)).1) t2
    have := Cw_bx (f := f) hX (by omega)
    exact ⟨u1, u2, by omega⟩
theorem sr_cons {b : Bool} {W : List Int} (h : SR b (w :: W)) : (wo w = 10 → b = true) ∧ SR (b || decide (wo w = 2)) W := h
theorem sk_cons {a c : Nat} {W : List Int} (h : SK a (w :: W) c) : ∃ k1, SK1 a w k1 ∧ SK k1 W c := h
theorem trun_cons {fn : Nat} {x : TS} {W : List Int} : trun X f (w :: W) fn x = trun X f W (fnw f w fn) (tstep X f (fnw f w fn) w x) := rfl
theorem sm_cons {g : Int → Nat} {W : List Int} : sm g (w :: W) = g w + sm g W := rfl
theorem l_130 {R : MF → Prop} (hn : n ∈ m_I1) (hX : ∀ r, r < 24 → Rok (X r)) (hf : f < 3) (hD0 : DTT F0 n X) (hb0 : ∀ id, id < 600 → F0 (n + 7) id = bnd X id) :
    ∀ (d i fn : Nat) (x4 : Int) (b : Bool) (F : MF) (h : Nat → Nat) (st : List (Nat × Int)) (E : List Int), i + d = (Cw X f).length → SK st.length ((Cw X f).drop i) 0 → SR b ((Cw X f).drop i) → (b = true → x4 = (fn : Int) ∧ fn < 602) → (∀ a ∈ st, a.1 < 602) → st.length + sm bx ((Cw X f).drop i) ≤ 192 → E.length + st.length + 2 * sm bx ((Cw X f).drop i) ≤ 1152 → St F → TyS F (h, st, E) → fr TyP F0 F →
      (∀ F', St F' → TyS F' (trun X f ((Cw X f).drop i) fn (h, st, E)) → fr TyP F0 F' → L_130_29 n ((f + 1 : Nat) : Int) F' R m_no) → L_130_52 n (f : Int) (n + (20 + 19 * f)) x4 (i : Int) F R m_no := by
  intro d
  have i9 := i9_of hn hf
  induction d with
  | zero =>
    intro i fn x4 b F h st E hi hk hr hb hl hs hE hS hT hfr K
    have hD := frTy_dtt hn hD0 hfr
    have hc : F (n + (20 + 19 * f)) 1 = ((Cw X f).length : Int) := (hD.2 f hf).2.1.1
    refine b_130_52 hn i9 hS ?_
    rw [hc]
    refine ⟨fun h => by omega, fun _ => ⟨by omega, ?_⟩⟩
    rw [List.drop_eq_nil_of_le (by omega)] at K
    rw [show (f : Int) + 1 = ((f + 1 : Nat) : Int) by omega]
    exact K F hS hT hfr
  | succ d ih =>
    intro i fn x4 b F h st E hi hk hr hb hl hs hE hS hT hfr K
    have hD := frTy_dtt hn hD0 hfr
    have hbF := frTy_b hn hb0 hfr
    have hc : F (n + (20 + 19 * f)) 1 = ((Cw X f).length : Int) := (hD.2 f hf).2.1.1
    have ha : AL (F (n + (20 + 19 * f) + 1)) (Cw X f) := (hD.2 f hf).2.1.2
    have hi2 : i < (Cw X f).length := by omega
    have e : (Cw X f).drop i = (Cw X f)[i] :: (Cw X f).drop (i + 1) := List.drop_eq_getElem_cons hi2
    have eg : gx (Cw X f) i = (Cw X f)[i] := by unfold gx; rw [List.getD_eq_getElem?_getD, List.getElem?_eq_getElem hi2]; rfl
    have hv := ha i hi2
    have hwc := Cw_wc hX hf hi2
    have hw32 := (Fw_len hX hf).2.2.2 i hi2
    have hlen := (Fw_len hX hf).2.2.1
    obtain ⟨w, hw⟩ : ∃ w, w = (Cw X f)[i] := ⟨_, rfl⟩
    rw [← hw] at e eg
    rw [eg] at hv hwc hw32
    rw [e] at hk hr hs hE K
    clear hw e eg
    have hi3 : i + 1 + d = (Cw X f).length := by omega
    have hi4 : i < 640 := Nat.lt_of_lt_of_le hi2 hlen
    have ihW := ih (i + 1)
    revert ihW; revert K; revert hE; revert hs; revert hr; revert hk
    generalize (Cw X f).drop (i + 1) = W
    intro hk hr hs hE K ihW
    rw [sm_cons] at hs hE
    rw [trun_cons] at K
    obtain ⟨k1, hk1, hk2⟩ := sk_cons hk
    obtain ⟨hr1, hr2⟩ := sr_cons hr
    have tv := tst_inv (fn := fnw f w fn) (h := h) (E := E) hX hf hwc hk1 hl
    have hkb := sk1_bx hk1
    have hkd := sk_dir hk1
    -- behind the step
    have next : ∀ (x4' : Int) (F' : MF), ((b || decide (wo w = 2)) = true → x4' = (fnw f w fn : Int) ∧ fnw f w fn < 602) → St F' → TyS F' (tstep X f (fnw f w fn) w (h, st, E)) → fr TyP F0 F' → (-2147483648 ≤ (i : Int) + 1 ∧ (i : Int) + 1 < 2147483648) ∧ L_130_52 n (f : Int) (n + (20 + 19 * f)) x4' ((i : Int) + 1) F' R m_no := by
      intro x4' F' hb' hS' hT' hfr'
      refine ⟨⟨by omega, by omega⟩, ?_⟩
      rw [show (i : Int) + 1 = ((i + 1 : Nat) : Int) from rfl]
      revert tv hT' K
      generalize tstep X f (fnw f w fn) w (h, st, E) = y
      obtain ⟨h', st', E'⟩ := y
      rintro K ⟨t1, t2, t3⟩ hT'
      change st'.length = k1 at t1
      change E'.length + st'.length ≤ _ at t3
      exact ihW (fnw f w fn) x4' _ F' h' st' E' hi3 (by rw [t1]; exact hk2) hr2 hb' t2 (by omega) (by omega) hS' hT' hfr' K
    obtain ⟨o, t, e, rfl, ht, hc2⟩ := hwc
    have htk : kn (ks X f) t = 0 → 200 * f + t < 600 := fun h0 => by
      have h1 := kn_tok (by rw [h0]; decide : kn (ks X f) t ≠ 24)
      have := toks_len hX hf
      omega
    have ho : o < 14 ∨ (o = 14 ∨ o = 15 ∨ o = 16 ∨ o = 17 ∨ o = 18) := by unfold oX at hc2; omega
    have w1 := wo_mk (o := o) (t := t) (e := e) (by omega)
    have w2 := wt_mk (o := o) (t := t) (e := e) (by omega) ht
    have h2 : o = 2 → 200 * f + t < 600 := fun h => htk (by
      rcases hc2 with h' | h' | ⟨-, h'⟩ | h' | h' | h'
      · unfold oX at h'; omega
      · omega
      · exact h' 0 (Nat.zero_le _)
      · omega
      · omega
      · omega)
    have step : ∀ x4' : Int, ((b || decide (wo (mk o t e) = 2)) = true → x4' = (fnw f (mk o t e) fn : Int) ∧ fnw f (mk o t e) fn < 602) → L_130_92 n (f : Int) (n + (20 + 19 * f)) x4' (i : Int) (mk o t e) F R m_no := by
      intro x4' hb'
      have h10 : o = 10 → (b || decide (wo (mk o t e) = 2)) = true := fun h => by rw [hr1 (by omega)]; rfl
      refine b_130_92 hn i9 hS ?_
      rw [g198 hw32, w1]
      refine ⟨fun c => ?_, fun c => ?_⟩
      · have hk1' := hk1
        rw [hkd (by omega), w1] at hk1'
        have e7 : (if (o : Int) = 7 ∨ (o : Int) = 8 ∨ (o : Int) = 9 ∨ (o : Int) = 10 ∨ (o : Int) = 11 then 0 else st.length) = (if o = 7 ∨ o = 8 ∨ o = 9 ∨ o = 10 ∨ o = 11 then 0 else st.length) := by
          by_cases q : o = 7 ∨ o = 8 ∨ o = 9 ∨ o = 10 ∨ o = 11
          · rw [if_pos q, if_pos (by omega)]
          · rw [if_neg q, if_neg (by omega)]
        rw [e7] at hk1'
        refine CaV.on (s_131 (fn := fnw f (mk o t e) fn) hn hS hX hbF hf hT (by omega) (by omega) hl (fun h => (hb' (h10 h)).2) (by omega) ht hw32.2 (fun h => htk (by unfold oX at hc2; omega)) hk1' (fun h => (hb' (h10 h)).1)) ?_
        rintro F1 hS1 ⟨q1, q2⟩
        exact next x4' F1 hb' hS1 q1 (hfr.tr q2)
      · have hbx : bx (mk o t e) = 1 := by unfold bx; rw [w1, if_pos (by omega)]
        rw [hbx] at hE hs
        have hsp : st.length < 199 := by omega
        refine CaV.on (s_132 (fn := fnw f (mk o t e) fn) (k1 := k1) hn hS hX hD hbF hf hT (by omega) hsp hl (by omega) ht hw32.2 (fun h => htk (by
          rcases h with h | h
          · exact h.2
          · unfold oX at hc2; omega)) hk1) ?_
        rintro F1 hS1 ⟨q1, q2⟩
        exact next x4' F1 hb' hS1 q1 (hfr.tr q2)
    refine b_130_52 hn i9 hS ?_
    rw [hc, Int.toNat_natCast, hv, g198 hw32, g199 hw32, w1, w2]
    refine ⟨fun _ => ⟨by omega, fun c => ⟨by omega, by omega, ?_⟩, fun c => ?_⟩, fun h => by omega⟩
    · have hf2 : fnw f (mk o t e) fn = 200 * f + t := by unfold fnw; rw [w1, w2, if_pos c, Int.toNat_natCast]
      refine step _ (fun _ => ?_)
      rw [hf2]
      have := h2 (by omega)
      exact ⟨by omega, by omega⟩
    · have hf2 : fnw f (mk o t e) fn = fn := by unfold fnw; rw [w1, if_neg c]
      refine step _ (fun hb' => ?_)
      rw [hf2]
      rw [w1] at hb'
      refine hb ?_
      rw [decide_eq_false c, Bool.or_false] at hb'
      exact hb'
end Ma2
