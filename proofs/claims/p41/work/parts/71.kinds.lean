/-! WHAT IS GATHERED OF A FILE, AND ITS TREE -/
def sw : List Int → Nat
  | [] => 0
  | x :: r => wtk x + sw r
theorem sw_app : ∀ A B : List Int, sw (A ++ B) = sw A + sw B
  | [], B => (Nat.zero_add _).symm
  | x :: r, B => by
    show wtk x + sw (r ++ B) = wtk x + sw r + sw B
    rw [sw_app r B, Nat.add_assoc]
theorem wts_cons {x : Int} {K : List Int} : ∀ a, wts (x :: K) (a + 1) = wtk x + wts K a
  | 0 => Nat.add_comm _ _
  | a + 1 => by
    show wts (x :: K) (a + 1) + wtk (kn (x :: K) (a + 1)) = wtk x + (wts K a + wtk (kn K a))
    rw [wts_cons a, Nat.add_assoc]
    rfl
theorem wts_sw : ∀ K : List Int, wts K K.length = sw K
  | [] => rfl
  | x :: K => by
    rw [List.length_cons, wts_cons, wts_sw K]
    rfl
theorem ite_rng {c : Prop} [Decidable c] {a b : Int} (ha : 0 ≤ a ∧ a < 24) (hb : 0 ≤ b ∧ b < 24) : 0 ≤ (if c then a else b) ∧ (if c then a else b) < 24 := by
  by_cases h : c
  · rw [if_pos h]; exact ha
  · rw [if_neg h]; exact hb
theorem ite_two {c : Prop} [Decidable c] {a b : Int} (ha : a ≠ 2) (hb : b ≠ 2) : (if c then a else b) ≠ 2 := by
  by_cases h : c
  · rw [if_pos h]; exact ha
  · rw [if_neg h]; exact hb
theorem kwd_rng (w : List Int) : 0 ≤ kwd w ∧ kwd w < 24 := by
  unfold kwd
  repeat' (refine ite_rng ?_ ?_)
  all_goals decide
theorem sgc_rng (c : Int) : 0 ≤ sgc c ∧ sgc c < 24 := by
  unfold sgc
  repeat' (refine ite_rng ?_ ?_)
  all_goals decide
theorem sgc_two (c : Int) : sgc c ≠ 2 := by
  unfold sgc
  repeat' (refine ite_two ?_ ?_)
  all_goals decide
theorem clsw_rng (w : List Int) : 0 ≤ clsw w ∧ clsw w < 24 := by
  unfold clsw
  exact ite_rng (kwd_rng w) (ite_rng (ite_rng (by decide) (by decide)) (ite_rng (by decide) (sgc_rng _)))
theorem m_ct_two : (kwt 2).length = 3 := by decide +kernel
theorem kwd_two {w : List Int} (h : w ≠ kwt 2) : kwd w ≠ 2 := by
  unfold kwd
  rw [if_neg h]
  repeat' (refine ite_two ?_ ?_)
  all_goals decide
theorem clsw_two {w : List Int} (h : clsw w = 2) : w.length = 3 := by
  by_cases h2 : w = kwt 2
  · rw [h2]
    exact m_ct_two
  · unfold clsw at h
    exact absurd h (ite_two (kwd_two h2) (ite_two (ite_two (by decide) (by decide)) (ite_two (by decide) (sgc_two _))))
theorem lexL_sw : ∀ (k : Nat) (l : List Int) (j : Nat) (b : Bool) (c : Nat), l.length ≤ j + k → j ≤ l.length →
    sw ((lexL k l j b c).1.map (fun t => t.1)) + j ≤ l.length ∧ ∀ x ∈ (lexL k l j b c).1.map (fun t => t.1), 0 ≤ x ∧ x < 24 := by
  intro k
  induction k with
  | zero => intro l j b c h1 h2; exact ⟨by show 0 + j ≤ _; omega, fun x hx => by cases hx⟩
  | succ k ih =>
    intro l j b c h1 h2
    unfold lexL
    by_cases e : l.length ≤ j
    · rw [if_pos e]
      exact ⟨by show 0 + j ≤ _; omega, fun x hx => by cases hx⟩
    · rw [if_neg e]
      split
      · next h3 =>
        have := turnsb_le h3
        have h4 := ih l (j + 2) (!b) c (by omega) (by omega)
        exact ⟨by show sw ((lexL k l (j + 2) (!b) c).1.map (fun t => t.1)) + j ≤ _; omega, h4.2⟩
      · split
        · have h4 := ih l (j + 1) b c (by omega) (by omega)
          exact ⟨by show sw ((lexL k l (j + 1) b c).1.map (fun t => t.1)) + j ≤ _; omega, h4.2⟩
        · split
          · have h4 := ih l (j + 1) b c (by omega) (by omega)
            exact ⟨by show sw ((lexL k l (j + 1) b c).1.map (fun t => t.1)) + j ≤ _; omega, h4.2⟩
          · have hs := span_pos l j (by omega)
            have hs2 := span_le l j (by omega)
            have := ih l (j + span l j) b (c + 1) (by omega) (by omega)
            refine ⟨?_, fun x hx => ?_⟩
            · show wtk (clsw (seg l j (span l j))) + sw _ + j ≤ _
              have hw : wtk (clsw (seg l j (span l j))) ≤ span l j := by
                unfold wtk
                split
                · next h5 =>
                  have := clsw_two h5
                  rw [seg_len hs2] at this
                  omega
                · exact hs
              omega
            · rcases List.mem_cons.mp hx with h5 | h5
              · rw [h5]
                exact clsw_rng _
              · exact this.2 x h5
/-- the classes of a file -/
def ks (X : Nat → List Int) (f : Nat) : List Int := (toks X f).map (fun t => t.1)
section M71
variable {X : Nat → List Int} {f : Nat}
theorem lexTo_sw (hX : ∀ r, r < 24 → Rok (X r)) (hf : f < 3) : ∀ m, m ≤ 8 → sw ((lexTo X f m).1.map (fun t => t.1)) ≤ 24 * m ∧ ∀ x ∈ (lexTo X f m).1.map (fun t => t.1), 0 ≤ x ∧ x < 24 := by
  intro m
  induction m with
  | zero => intro _; exact ⟨Nat.le_refl _, fun x hx => by cases hx⟩
  | succ m ih =>
    intro hm
    have h1 := ih (by omega)
    have h2 := (hX (8 * f + m) (by omega)).1
    have h3 := lexL_sw 24 (X (8 * f + m)) 0 (lexTo X f m).2 (lexTo X f m).1.length (by omega) (Nat.zero_le _)
    have e : (lexTo X f (m + 1)).1.map (fun t => t.1) = (lexTo X f m).1.map (fun t => t.1) ++ (lexL 24 (X (8 * f + m)) 0 (lexTo X f m).2 (lexTo X f m).1.length).1.map (fun t => t.1) := by
      show ((lexTo X f m).1 ++ List.map (fun t : Int × Nat × Nat => (t.1, m, t.2.1, t.2.2)) _).map (fun t => t.1) = _
      rw [List.map_append, List.map_map]
      rfl
    rw [e, sw_app]
    refine ⟨by omega, fun x hx => ?_⟩
    rcases List.mem_append.mp hx with h | h
    · exact h1.2 x h
    · exact h3.2 x h
theorem ks_len (hX : ∀ r, r < 24 → Rok (X r)) (hf : f < 3) : (ks X f).length ≤ 192 := by
  unfold ks
  rw [List.length_map]
  exact toks_len hX hf
theorem ks_len' : (ks X f).length = (toks X f).length := List.length_map ..
theorem ks_wt (hX : ∀ r, r < 24 → Rok (X r)) (hf : f < 3) : wts (ks X f) (ks X f).length ≤ 199 := by
  rw [wts_sw]
  have := (lexTo_sw hX hf 8 (Nat.le_refl _)).1
  show sw ((lexTo X f 8).1.map _) ≤ 199
  omega
theorem ks_kn {i : Nat} (hX : ∀ r, r < 24 → Rok (X r)) (hf : f < 3) (hi : i < (ks X f).length) : 0 ≤ kn (ks X f) i ∧ kn (ks X f) i < 24 := by
  have := (lexTo_sw hX hf 8 (Nat.le_refl _)).2
  refine this _ ?_
  unfold kn
  rw [List.getD_eq_getElem?_getD, List.getElem?_eq_getElem hi]
  exact List.getElem_mem hi
theorem ks_no {i : Nat} (hX : ∀ r, r < 24 → Rok (X r)) (hf : f < 3) (hi : i < (ks X f).length) : kn (ks X f) i ≠ 24 := by
  have := ks_kn hX hf hi
  omega
theorem ks_at {i : Nat} (hi : i < (toks X f).length) : gx (ks X f) i = (tk (toks X f) i).1 := by
  unfold gx ks tk
  rw [List.getD_eq_getElem?_getD, List.getD_eq_getElem?_getD, List.getElem?_map, List.getElem?_eq_getElem hi]
  rfl
theorem GaC.ks {F : MF} {n : Nat} (h : GaC F n f X) : AL (F (n + 1)) (ks X f) ∧ F n 8 = ((ks X f).length : Int) := by
  obtain ⟨⟨h1, h2⟩, -⟩ := h
  refine ⟨fun i hi => ?_, by rw [ks_len']; exact h1⟩
  rw [ks_len'] at hi
  rw [ks_at hi]
  have := (h2 i hi).1
  rw [Nat.zero_add] at this
  exact this
theorem GaC.fr {F F' : MF} {P : Nat → Prop} {n : Nat} (h : GaC F n f X) (hf : fr P F F') (hP : ∀ c, n ≤ c → c ≤ n + 8 → ¬ P c) : GaC F' n f X := by
  obtain ⟨⟨h1, h2⟩, h3, h4, h5⟩ := h
  have e : ∀ c, n ≤ c → c ≤ n + 8 → F' c = F c := fun c a b => hf c (hP c a b)
  refine ⟨⟨?_, ?_⟩, ?_, ?_, ?_⟩
  · rw [e n (by omega) (by omega)]; exact h1
  · rw [e (n + 1) (by omega) (by omega), e (n + 2) (by omega) (by omega), e (n + 3) (by omega) (by omega), e (n + 4) (by omega) (by omega)]; exact h2
  · rw [e (n + 5) (by omega) (by omega)]; exact h3
  · rw [e (n + 8) (by omega) (by omega)]; exact h4
  · rw [e (n + 7) (by omega) (by omega)]; exact h5
/-- the tree of a file -/
def TrC (F : MF) (t f : Nat) (X : Nat → List Int) : Prop := TreeC F t (prs (ks X f)).2.2.1 (prs (ks X f)).2.2.2.1 (prs (ks X f)).2.2.2.2.1 (prs (ks X f)).2.2.2.2.2
theorem TrC.fr {F F' : MF} {P : Nat → Prop} {t : Nat} (h : TrC F t f X) (hf : fr P F F') (hP : ∀ c, t ≤ c → c ≤ t + 9 → ¬ P c) : TrC F' t f X := TreeC.cong h (fun c h1 h2 => hf c (hP c h1 h2))
/-- the first files of a desk are gathered and read -/
def GTC (F : MF) (n k : Nat) (X : Nat → List Int) : Prop := ∀ f, f < k → GaC F (n + (11 + 19 * f)) f X ∧ TrC F (n + (20 + 19 * f)) f X
def DP (n : Nat) : Nat → Prop := fun c => n + 11 ≤ c ∧ c ≤ n + 78
theorem l_11 {n : Nat} {R : MF → Prop} (hn : n ∈ m_I1) (hX : ∀ r, r < 24 → Rok (X r)) : ∀ (d f : Nat) (F : MF), f + d = 3 → St F → LinC F (n + 1) X → GTC F n f X →
    (∀ F', St F' → GTC F' n 3 X → fr (DP n) F F' → C_433 (n + 7) (-1) F' (fun F3 => L_11_68 n 0 F3 R m_no) m_no) → L_11_2 n (f : Int) F R m_no := by
  intro d
  induction d with
  | zero =>
    intro f F hd hS hL hG Kk
    obtain rfl : f = 3 := by omega
    exact b_11_2 hn hS ⟨fun h => by omega, fun _ => Kk F hS hG fr.rf⟩
  | succ d ih =>
    intro f F hd hS hL hG Kk
    have hfi : (0 : Int) ≤ (f : Int) ∧ (f : Int) < 3 := by omega
    have i8 := io_rows hn hfi
    have i9 := io_trees hn hfi
    rw [Int.toNat_natCast] at i8 i9
    refine b_11_2 hn hS ⟨fun _ => ?_, fun h => by omega⟩
    rw [Int.toNat_natCast]
    refine ⟨hfi, CaV.on (s_112 i8 (io_1_0 hn) (by omega) hS hL) ?_⟩
    rintro F1 hS1 ⟨k1, k2⟩
    have hk := k1.ks
    have hl := ks_len hX (f := f) (by omega)
    have hRX : RX (n + 68) (n + (20 + 19 * f)) (n + (11 + 19 * f) + 1) 192 (ks X f) :=
      ⟨io_1_4 hn, i9, ka_8_0 i8, hl, by omega, fun c hc e => by unfold RP at hc; omega, Or.inl (by omega)⟩
    rw [hk.2]
    refine ⟨hfi, hfi, hfi, CaV.on (s_58 hRX hS1 hk.1 (fun i hi => ks_no hX (by omega) hi) (ks_wt hX (by omega))) ?_⟩
    rintro F2 hS2 ⟨k3, k4⟩
    refine ⟨by omega, ?_⟩
    have hf12 : fr (DP n) F F2 := (k2.mo (fun c h => by unfold DP; omega)).tr (k3.mo (fun c h => by unfold DP; unfold RP at h; omega))
    rw [show (f : Int) + 1 = ((f + 1 : Nat) : Int) by omega]
    refine ih (f + 1) F2 (by omega) hS2 (hL.fr hf12 (by unfold DP; omega) (by unfold DP; omega)) (fun g hg => ?_) (fun F' a b c => Kk F' a b (hf12.tr c))
    by_cases e : g = f
    · subst e
      exact ⟨k1.fr k3 (fun c h1 h2 h3 => by unfold RP at h3; omega), k4.2.2.2⟩
    · have hg' := hG g (by omega)
      exact ⟨(hg'.1.fr k2 (fun c h1 h2 h3 => by omega)).fr k3 (fun c h1 h2 h3 => by unfold RP at h3; omega), (hg'.2.fr k2 (fun c h1 h2 h3 => by omega)).fr k3 (fun c h1 h2 h3 => by unfold RP at h3; omega)⟩
end M71
