/-! WHAT TOKENS HAVE BECOME, OF THE CLASS -/
/-- the first token of a row -/
def frt (X : Nat → List Int) (r : Nat) : Int := if 0 < nt X (r / 8) (r % 8) then ((200 * (r / 8) + fs X (r / 8) (r % 8) : Nat) : Int) else -1
/-- a token has become another one, by the rows from which rows come -/
def MvT (X Y : Nat → List Int) (og : Nat → Int) (old new : Nat) : Prop := ∃ f m i : Nat, f < 3 ∧ m < 8 ∧ i < nt Y f m ∧ new = 200 * f + (fs Y f m + i) ∧ og (8 * f + m) ≠ -1 ∧ frt X (og (8 * f + m)).toNat ≠ -1 ∧ (old : Int) = frt X (og (8 * f + m)).toNat + (i : Int)
/-- what each token has become -/
def BC (F : MF) (X Y : Nat → List Int) (og : Nat → Int) : Prop := ∀ old, old < 600 → (F 197 old = -1 ∧ ∀ new, ¬ MvT X Y og old new) ∨ ∃ new : Nat, F 197 old = (new : Int) ∧ MvT X Y og old new
section Mj6
variable {F G : MF} {X Y : Nat → List Int} {f m k i : Nat} {og : Nat → Int}
theorem bnd_rg2 {id : Nat} (hX : ∀ r, r < 24 → Rok (X r)) (hid : id < 600) : bnd X id = -1 ∨ ∃ f k, f < 3 ∧ k < (toks X f).length ∧ kn (ks X f) k = 0 ∧ bnd X id = ((200 * f + k : Nat) : Int) := by
  by_cases h : bnd X id = -1
  · exact Or.inl h
  · obtain ⟨⟨d1, d2⟩, d3⟩ := bnd_D hX hid h
    have hf : (bnd X id).toNat / 200 < 3 := by omega
    have := bnd_kn (f := (bnd X id).toNat / 200) (k := (bnd X id).toNat % 200) hX hf (by omega) (by rw [show 200 * ((bnd X id).toNat / 200) + (bnd X id).toNat % 200 = (bnd X id).toNat by omega, d2]; omega)
    exact Or.inr ⟨_, _, hf, this.1, this.2, by omega⟩
theorem frt_at (hm : m < 8) : frt X (8 * f + m) = if 0 < nt X f m then ((200 * f + fs X f m : Nat) : Int) else -1 := by
  unfold frt
  rw [show (8 * f + m) / 8 = f by omega, show (8 * f + m) % 8 = m by omega]
/-- the first tokens of rows, and what tokens are bound to, are kept -/
theorem s_41 (hS : St F) (hX : ∀ r, r < 24 → Rok (X r)) (hD : DB F 110 X) : C_41 F (fun F' => (∀ r : Nat, r < 24 → F' 114 r = (r : Int)) ∧ (∀ id, id < 600 → F' 195 id = bnd X id) ∧ (∀ r, r < 24 → F' 196 r = frt X r) ∧ fr (fun c => c = 114 ∨ c = 195 ∨ c = 196) F F') m_no := by
  refine c_41 hS ?_
  refine CaV.on (s_30 (n := 111) (by decide) hS) ?_
  rintro F1 hS1 ⟨a1, a2⟩
  have hS2 : St (m_cpy F1 117 (0 : Int).toNat 195 (0 : Int).toNat (600 : Int).toNat) := hS1.cpy kd_195 (by decide)
  refine CaV.on (s_433 (v := -1) kd_196 (by decide) hS2) ?_
  rintro F2 hS2 ⟨b1, b2⟩
  have e195 : ∀ id, id < 600 → F2 195 id = bnd X id := fun id hid => by
    rw [b2 195 (by decide)]
    show m_cpy F1 117 0 195 0 600 195 id = _
    unfold m_cpy
    rw [if_pos ⟨rfl, Nat.zero_le _, by omega⟩, Nat.zero_add, Nat.sub_zero, a2 117 (by decide)]
    exact hD.2 id hid
  have f2 : fr (fun c => c = 114 ∨ c = 195 ∨ c = 196) F F2 := fun c hc => by
    rw [b2 c (fun e => hc (Or.inr (Or.inr e))), cp_row (fun e => hc (Or.inr (Or.inl e))), a2 c (fun e => hc (Or.inl e))]
  have e114 : ∀ r : Nat, r < 24 → F2 114 r = (r : Int) := fun r hr => by
    rw [b2 114 (by decide), cp_row (by decide)]
    exact a1 r hr
  obtain ⟨Q, hQ⟩ : ∃ Q : MF → Prop, Q = fun F' => (∀ r : Nat, r < 24 → F' 114 r = (r : Int)) ∧ (∀ id, id < 600 → F' 195 id = bnd X id) ∧ (∀ r, r < 24 → F' 196 r = frt X r) ∧ fr (fun c => c = 114 ∨ c = 195 ∨ c = 196) F F' := ⟨_, rfl⟩
  rw [← hQ]
  have key : ∀ (d f : Nat) (G : MF), f + d = 3 → St G → fr (fun c => c = 196) F2 G → (∀ r, r < 8 * f → G 196 r = frt X r) → (∀ r, 8 * f ≤ r → r < 24 → G 196 r = -1) → L_41_39 (f : Int) G Q m_no := by
    intro d
    induction d with
    | zero =>
      intro f G hf hS hz h1 h2
      obtain rfl : f = 3 := by omega
      refine b_41_39 hS ⟨fun h => by omega, fun _ => ?_⟩
      rw [hQ]
      refine ⟨fun r hr => by rw [hz 114 (by decide)]; exact e114 r hr, fun id hid => by rw [hz 195 (by decide)]; exact e195 id hid, fun r hr => h1 r (by omega), f2.tr (hz.mo (fun c h => Or.inr (Or.inr h)))⟩
    | succ d ih =>
      intro f G hf hS hz h1 h2
      have hf3 : f < 3 := by omega
      have lk := toks_len hX hf3
      have i8 : 110 + (11 + 19 * f) ∈ m_I8 := i8_of (by decide) hf3
      have gG : ∀ H : MF, fr (fun c => c = 196) F2 H → H (110 + (11 + 19 * f)) 8 = ((toks X f).length : Int) ∧ ∀ k, k < (toks X f).length → H (110 + (11 + 19 * f) + 2) k = (tl X f k : Int) := fun H hH => by
        have g0 := hD.1.dt.2 f hf3
        rw [hH _ (by omega), f2 _ (by omega), hH (110 + (11 + 19 * f) + 2) (by omega), f2 (110 + (11 + 19 * f) + 2) (by omega)]
        exact ⟨g0.1.1, fun k hk => (gac_tok g0 hk).2.1⟩
      have lp : ∀ (i : Nat) (H : MF), i ≤ (toks X f).length → St H → fr (fun c => c = 196) F2 H → (∀ r, r < 8 * f → H 196 r = frt X r) → (∀ r, 8 * f + 8 ≤ r → r < 24 → H 196 r = -1) →
          (∀ m, m < 8 → (H 196 (8 * f + m) = -1 ∧ ∀ k, i ≤ k → k < (toks X f).length → tl X f k ≠ m) ∨ ∃ k, i ≤ k ∧ k < (toks X f).length ∧ tl X f k = m ∧ H 196 (8 * f + m) = ((200 * f + k : Nat) : Int) ∧ ∀ k', i ≤ k' → k' < (toks X f).length → tl X f k' = m → k ≤ k') →
          L_41_61 (f : Int) (110 + (11 + 19 * f)) ((i : Int) - 1) H Q m_no := by
        intro i
        induction i with
        | zero =>
          intro H hi hSH hzH g1 g2 g3
          refine b_41_61 i8 hSH ⟨fun _ => ⟨by omega, ?_⟩, fun h => absurd (by omega) h⟩
          have := ih (f + 1) H (by omega) hSH hzH (fun r hr => ?_) (fun r a b => g2 r (by omega) b)
          · rw [show ((f + 1 : Nat) : Int) = (f : Int) + 1 by omega] at this
            exact this
          · by_cases c : r < 8 * f
            · exact g1 r c
            · obtain ⟨m, rfl, hm⟩ : ∃ m, r = 8 * f + m ∧ m < 8 := ⟨r - 8 * f, by omega, by omega⟩
              rw [frt_at hm]
              rcases g3 m hm with ⟨a, b⟩ | ⟨k, -, a, b, c1, d1⟩
              · rw [if_neg (fun hn => b (fs X f m + 0) (Nat.zero_le _) (tok_at hX hf3 hm hn).1 (tok_tl hX hf3 hm hn).2.1)]
                exact a
              · obtain ⟨m2, i2, e1, e2, rfl⟩ := tok_row hX hf3 a
                have t2 := tok_tl hX hf3 e1 e2
                rw [t2.2.1] at b
                subst b
                have hn : 0 < nt X f m2 := by omega
                have := d1 (fs X f m2 + 0) (Nat.zero_le _) (tok_at hX hf3 hm hn).1 (tok_tl hX hf3 hm hn).2.1
                rw [if_pos hn, c1]
                congr 2
                omega
        | succ i ih2 =>
          intro H hi hSH hzH g1 g2 g3
          have hi2 : i < (toks X f).length := by omega
          have o := toks_ok hi2
          rw [show ((i + 1 : Nat) : Int) - 1 = (i : Int) by omega]
          refine b_41_61 i8 hSH ⟨fun h => by omega, fun _ => ?_⟩
          rw [Int.toNat_natCast, (gG H hzH).2 i hi2]
          refine ⟨by omega, by omega, by omega, by omega, by omega, by omega, by omega, ?_⟩
          rw [show ((f : Int) * 8 + (tl X f i : Int)).toNat = 8 * f + tl X f i by omega, show (f : Int) * 200 + (i : Int) = ((200 * f + i : Nat) : Int) by omega, show (i : Int) + -1 = (i : Int) - 1 by omega]
          refine ih2 _ (by omega) (hSH.arr kd_196 (by decide)) (hzH.up rfl) (fun r hr => by rw [u_ne (Or.inr (by omega))]; exact g1 r hr) (fun r a b => by rw [u_ne (Or.inr (by omega))]; exact g2 r a b) (fun m hm => ?_)
          by_cases e : tl X f i = m
          · subst e
            exact Or.inr ⟨i, Nat.le_refl _, hi2, rfl, u_eq, fun k' h _ _ => h⟩
          · rw [u_ne (Or.inr (by omega))]
            rcases g3 m hm with ⟨a, b⟩ | ⟨k, a, b, c, d1, d2⟩
            · exact Or.inl ⟨a, fun k h1 h2 h3 => by
                by_cases e2 : k = i
                · rw [e2] at h3; exact e h3
                · exact b k (by omega) h2 h3⟩
            · exact Or.inr ⟨k, by omega, b, c, d1, fun k' h1 h2 h3 => by
                by_cases e2 : k' = i
                · rw [e2] at h3; exact absurd h3 e
                · exact d2 k' (by omega) h2 h3⟩
      refine b_41_39 hS ⟨fun _ => ⟨by omega, ?_⟩, fun h => by omega⟩
      rw [Int.toNat_natCast, (gG G hz).1]
      refine ⟨by omega, ?_⟩
      exact lp (toks X f).length G (Nat.le_refl _) hS hz h1 (fun r a b => h2 r (by omega) b) (fun m hm => Or.inl ⟨h2 _ (by omega) (by omega), fun k a b => by omega⟩)
  refine key 3 0 F2 (by decide) hS2 fr.rf (fun r hr => by omega) (fun r _ hr => b1 r hr)
/-- tokens are followed -/
theorem s_42 (hS : St F) (hY : ∀ r, r < 24 → Rok (Y r)) (hG : ∀ f, f < 3 → GaC F (110 + (11 + 19 * f)) f Y) (hO : ∀ r, r < 24 → F 114 r = og r ∧ (og r = -1 ∨ 0 ≤ og r ∧ og r < 24)) (h196 : ∀ r, r < 24 → F 196 r = frt X r) (hXf : ∀ r, r < 24 → frt X r = -1 ∨ 0 ≤ frt X r ∧ frt X r < 600) :
    C_42 F (fun F' => BC F' X Y og ∧ fr (fun c => c = 197) F F') m_no := by
  refine c_42 hS ?_
  refine CaV.on (s_433 (v := -1) kd_197 (by decide) hS) ?_
  rintro F2 hS2 ⟨b1, b2⟩
  obtain ⟨Q, hQ⟩ : ∃ Q : MF → Prop, Q = fun F' => BC F' X Y og ∧ fr (fun c => c = 197) F F' := ⟨_, rfl⟩
  rw [← hQ]
  obtain ⟨W, hW⟩ : ∃ W : MF → Nat → Prop, W = fun G n => ∀ old, old < 600 → (G 197 old = -1 ∧ ∀ new, new < n → ¬ MvT X Y og old new) ∨ ∃ new : Nat, G 197 old = (new : Int) ∧ MvT X Y og old new := ⟨_, rfl⟩
  have wk : ∀ G n n', W G n → (∀ old new, MvT X Y og old new → new < n' → new < n) → W G n' := fun G n n' h k => by
    rw [hW] at h ⊢
    intro old ho
    rcases h old ho with ⟨a, b⟩ | h
    · exact Or.inl ⟨a, fun new hn hm => b new (k old new hm hn) hm⟩
    · exact Or.inr h
  have mvr : ∀ old new, MvT X Y og old new → ∃ f k, f < 3 ∧ k < (toks Y f).length ∧ new = 200 * f + k := by
    rintro old new ⟨f, m, i, h1, h2, h3, h4, -⟩
    exact ⟨f, fs Y f m + i, h1, (tok_at hY h1 h2 h3).1, h4⟩
  have key : ∀ (d f : Nat) (G : MF), f + d = 3 → St G → fr (fun c => c = 197) F G → W G (200 * f) → L_42_10 (f : Int) G Q m_no := by
    intro d
    induction d with
    | zero =>
      intro f G hf hS hz hw
      obtain rfl : f = 3 := by omega
      refine b_42_10 hS ⟨fun h => by omega, fun _ => ?_⟩
      rw [hQ]
      refine ⟨fun old ho => ?_, hz⟩
      rw [hW] at hw
      rcases hw old ho with ⟨a, b⟩ | h
      · refine Or.inl ⟨a, fun new hm => b new ?_ hm⟩
        obtain ⟨f, k, e1, e2, e3⟩ := mvr _ _ hm
        have := toks_len hY e1
        omega
      · exact Or.inr h
    | succ d ih =>
      intro f G hf hS hz hw
      have hf3 : f < 3 := by omega
      have lk := toks_len hY hf3
      have i8 : 110 + (11 + 19 * f) ∈ m_I8 := i8_of (by decide) hf3
      have g0 := hG f hf3
      have lp : ∀ (d k first : Nat) (H : MF), k + d = (toks Y f).length → St H → fr (fun c => c = 197) F H → W H (200 * f + k) → ((k = 0 ∧ first = 0) ∨ (0 < k ∧ k - 1 < (toks Y f).length ∧ first = fs Y f (tl Y f (k - 1)))) → L_42_30 (f : Int) (110 + (11 + 19 * f)) (first : Int) (k : Int) H Q m_no := by
        intro d
        induction d with
        | zero =>
          intro k first H hk hSH hzH hw hfi
          obtain rfl : k = (toks Y f).length := by omega
          have hc : H (110 + (11 + 19 * f)) 8 = ((toks Y f).length : Int) := by rw [hzH _ (by omega)]; exact g0.1.1
          refine b_42_30 i8 hSH ?_
          rw [hc]
          refine ⟨fun h => by omega, fun _ => ⟨by omega, ?_⟩⟩
          have := ih (f + 1) H (by omega) hSH hzH (wk H _ _ hw (fun old new hm hn => by
            obtain ⟨g, k, e1, e2, e3⟩ := mvr _ _ hm
            have := toks_len hY e1
            have : g ≤ f := by omega
            by_cases e : g = f
            · subst e; omega
            · omega))
          rw [show ((f + 1 : Nat) : Int) = (f : Int) + 1 by omega] at this
          exact this
        | succ d ih2 =>
          intro k first H hk hSH hzH hw hfi
          have hk2 : k < (toks Y f).length := by omega
          have o := toks_ok hk2
          obtain ⟨m, i, e1, e2, e3⟩ := tok_row hY hf3 hk2
          have t := tok_tl hY hf3 e1 e2
          rw [← e3] at t
          have hc : H (110 + (11 + 19 * f)) 8 = ((toks Y f).length : Int) := by rw [hzH _ (by omega)]; exact g0.1.1
          have h2 : ∀ q, q < (toks Y f).length → H (110 + (11 + 19 * f) + 2) q = (tl Y f q : Int) := fun q hq => by rw [hzH _ (by omega)]; exact (gac_tok g0 hq).2.1
          have hfl : first < (toks Y f).length ∧ (tl Y f first = m → first = fs Y f m) ∧ (tl Y f first ≠ m → k = fs Y f m) := by
            rcases hfi with ⟨a, b⟩ | ⟨a, b, c⟩
            · subst b
              refine ⟨by omega, fun _ => by omega, fun h => ?_⟩
              rw [← a, t.2.1] at h
              exact absurd rfl h
            · obtain ⟨m2, i2, a1, a2, a3⟩ := tok_row hY hf3 b
              have t2 := tok_tl hY hf3 a1 a2
              rw [← a3] at t2
              rw [t2.2.1] at c
              have hn : 0 < nt Y f m2 := by omega
              have f2 := tok_tl hY hf3 a1 hn
              have f3 := (tok_at hY hf3 a1 hn).1
              rw [Nat.add_zero, ← c] at f2 f3
              refine ⟨f3, fun h => by rw [f2.2.1] at h; rw [c, h], fun h => ?_⟩
              rw [f2.2.1] at h
              by_cases c2 : m2 < m
              · have := fs_le (X := Y) (f := f) (n := m) (m2 + 1) (by omega)
                change fs Y f m2 + nt Y f m2 ≤ _ at this
                omega
              · have := fs_le (X := Y) (f := f) (n := m2) (m + 1) (by omega)
                change fs Y f m + nt Y f m ≤ _ at this
                omega
          -- the body, with the first token of the line
          have body : L_42_58 (f : Int) (110 + (11 + 19 * f)) ((fs Y f m : Nat) : Int) (k : Int) H Q m_no := by
            have nxf : (k + 1 = 0 ∧ fs Y f m = 0) ∨ (0 < k + 1 ∧ k + 1 - 1 < (toks Y f).length ∧ fs Y f m = fs Y f (tl Y f (k + 1 - 1))) := Or.inr ⟨by omega, by omega, by rw [Nat.add_sub_cancel, t.2.1]⟩
            have hog := hO (8 * f + m) (by omega)
            have h114 : H 114 (8 * f + m) = og (8 * f + m) := by rw [hzH 114 (by omega)]; exact hog.1
            have stop : (∀ old, MvT X Y og old (200 * f + k) → False) → L_42_30 (f : Int) (110 + (11 + 19 * f)) ((fs Y f m : Nat) : Int) ((k : Int) + 1) H Q m_no := by
              intro hno
              have := ih2 (k + 1) (fs Y f m) H (by omega) hSH hzH (wk H _ _ hw (fun old new hm hn => by
                by_cases e : new = 200 * f + k
                · subst e; exact absurd hm (hno old)
                · omega)) nxf
              rw [show ((k + 1 : Nat) : Int) = (k : Int) + 1 by omega] at this
              exact this
            -- what it comes from
            have uniq : ∀ old, MvT X Y og old (200 * f + k) → og (8 * f + m) ≠ -1 ∧ frt X (og (8 * f + m)).toNat ≠ -1 ∧ (old : Int) = frt X (og (8 * f + m)).toNat + (i : Int) := by
              rintro old ⟨f', m', i', u1, u2, u3, u4, u5, u6, u7⟩
              have lk' := toks_len hY u1
              have u8 := (tok_at hY u1 u2 u3).1
              have : f' = f := by omega
              subst this
              have u9 := (tok_tl hY u1 u2 u3).2.1
              have : fs Y f' m' + i' = k := by omega
              rw [this, t.2.1] at u9
              subst u9
              have : i' = i := by omega
              subst this
              exact ⟨u5, u6, u7⟩
            have r1 : ((f : Int) * 8 + (tl Y f k : Int)).toNat = 8 * f + m := by rw [t.2.1]; omega
            refine b_42_58 i8 hSH ?_
            rw [Int.toNat_natCast, h2 k hk2, r1, h114]
            refine ⟨by omega, by omega, by omega, by omega, fun h1 => ?_, fun h1 => ?_⟩
            · refine b_42_100 i8 hSH ⟨by omega, stop (fun old hm => (uniq old hm).1 h1)⟩
            · have hr : 0 ≤ og (8 * f + m) ∧ og (8 * f + m) < 24 := by
                rcases hog.2 with h | h
                · exact absurd h h1
                · exact h
              have e196 : H 196 (og (8 * f + m)).toNat = frt X (og (8 * f + m)).toNat := by rw [hzH 196 (by omega)]; exact h196 _ (by omega)
              have hx := hXf (og (8 * f + m)).toNat (by omega)
              rw [e196]
              refine ⟨by omega, fun h3 => ?_, fun h3 => ?_⟩
              · exact b_42_100 i8 hSH ⟨by omega, stop (fun old hm => (uniq old hm).2.1 h3)⟩
              · have hx2 : 0 ≤ frt X (og (8 * f + m)).toNat ∧ frt X (og (8 * f + m)).toNat < 600 := by
                  rcases hx with h | h
                  · exact absurd h h3
                  · exact h
                obtain ⟨b, hb⟩ : ∃ b : Nat, frt X (og (8 * f + m)).toNat = (b : Int) := ⟨_, (Int.toNat_of_nonneg hx2.1).symm⟩
                rw [hb] at hx2 ⊢
                have ex : (b : Int) + (k : Int) - ((fs Y f m : Nat) : Int) = ((b + i : Nat) : Int) := by omega
                rw [ex]
                have hmv : MvT X Y og (b + i) (200 * f + k) := ⟨f, m, i, hf3, e1, e2, by omega, h1, h3, by rw [hb]; omega⟩
                refine ⟨by omega, by omega, by omega, fun h => by omega, fun _ => ⟨fun h4 => ⟨by omega, by omega, by omega, by omega, ?_⟩, fun h4 => ⟨by omega, ?_⟩⟩⟩
                · rw [Int.toNat_natCast, show (f : Int) * 200 + (k : Int) = ((200 * f + k : Nat) : Int) by omega]
                  have := ih2 (k + 1) (fs Y f m) (m_up H 197 (b + i) ((200 * f + k : Nat) : Int)) (by omega) (hSH.arr kd_197 (by decide)) (hzH.up rfl) (by
                    rw [hW] at hw ⊢
                    intro old ho
                    by_cases e : old = b + i
                    · subst e
                      exact Or.inr ⟨200 * f + k, u_eq, hmv⟩
                    · rw [u_ne (Or.inr e)]
                      rcases hw old ho with ⟨a, c⟩ | h
                      · refine Or.inl ⟨a, fun new hn hm => ?_⟩
                        by_cases e5 : new = 200 * f + k
                        · subst e5
                          have := (uniq old hm).2.2
                          rw [hb] at this
                          omega
                        · exact c new (by omega) hm
                      · exact Or.inr h) nxf
                  rw [show ((k + 1 : Nat) : Int) = (k : Int) + 1 by omega] at this
                  exact this
                · have := ih2 (k + 1) (fs Y f m) H (by omega) hSH hzH (by
                    rw [hW] at hw ⊢
                    intro old ho
                    rcases hw old ho with ⟨a, c⟩ | h
                    · refine Or.inl ⟨a, fun new hn hm => ?_⟩
                      by_cases e5 : new = 200 * f + k
                      · subst e5
                        have := (uniq old hm).2.2
                        rw [hb] at this
                        omega
                      · exact c new (by omega) hm
                    · exact Or.inr h) nxf
                  rw [show ((k + 1 : Nat) : Int) = (k : Int) + 1 by omega] at this
                  exact this
          refine b_42_30 i8 hSH ?_
          rw [hc, Int.toNat_natCast, Int.toNat_natCast, h2 first hfl.1, h2 k hk2]
          refine ⟨fun _ => ⟨by omega, by omega, fun e => ?_, fun e => ?_⟩, fun h => by omega⟩
          · have : first = fs Y f m := hfl.2.1 (by rw [t.2.1] at e; omega)
            rw [this]
            exact body
          · have : k = fs Y f m := hfl.2.2 (by rw [t.2.1] at e; omega)
            have b0 := body
            rw [← this] at b0
            exact b0
      refine b_42_10 hS ⟨fun _ => ⟨by omega, ?_⟩, fun h => by omega⟩
      rw [Int.toNat_natCast]
      exact lp (toks Y f).length 0 0 G (by omega) hS hz hw (Or.inl ⟨rfl, rfl⟩)
  refine key 3 0 F2 (by decide) hS2 b2 ?_
  rw [hW]
  exact fun old ho => Or.inl ⟨b1 old ho, fun new hn => absurd hn (Nat.not_lt_zero new)⟩
/-- whether some token is bound otherwise -/
theorem s_43 {oB bc nB : Nat → Int} (hS : St F) (h195 : ∀ i, i < 600 → F 195 i = oB i ∧ (oB i = -1 ∨ 0 ≤ oB i ∧ oB i < 600)) (h197 : ∀ i, i < 600 → F 197 i = bc i ∧ (bc i = -1 ∨ 0 ≤ bc i ∧ bc i < 600)) (h117 : ∀ i, i < 600 → F 117 i = nB i) :
    C_43 F (fun r F' => F' = F ∧ ((r = 0 ∧ ∀ old, old < 600 → bc old ≠ -1 → nB (bc old).toNat = if oB old = -1 then -1 else bc (oB old).toNat) ∨ (r = 1 ∧ ∃ old, old < 600 ∧ bc old ≠ -1 ∧ nB (bc old).toNat ≠ if oB old = -1 then -1 else bc (oB old).toNat))) m_no := by
  have key : ∀ (d i : Nat), i + d = 600 → (∀ old, old < i → bc old ≠ -1 → nB (bc old).toNat = if oB old = -1 then -1 else bc (oB old).toNat) → L_43_2 (i : Int) F (fun r F' => F' = F ∧ ((r = 0 ∧ ∀ old, old < 600 → bc old ≠ -1 → nB (bc old).toNat = if oB old = -1 then -1 else bc (oB old).toNat) ∨ (r = 1 ∧ ∃ old, old < 600 ∧ bc old ≠ -1 ∧ nB (bc old).toNat ≠ if oB old = -1 then -1 else bc (oB old).toNat))) m_no := by
    intro d
    induction d with
    | zero =>
      intro i hi hz
      obtain rfl : i = 600 := by omega
      exact b_43_2 hS ⟨fun h => by omega, fun _ => ⟨rfl, Or.inl ⟨rfl, hz⟩⟩⟩
    | succ d ih =>
      intro i hi hz
      have hi2 : i < 600 := by omega
      obtain ⟨a1, a2⟩ := h195 i hi2
      obtain ⟨b1, b2⟩ := h197 i hi2
      have nx : (bc i ≠ -1 → nB (bc i).toNat = if oB i = -1 then -1 else bc (oB i).toNat) → L_43_2 ((i : Int) + 1) F (fun r F' => F' = F ∧ ((r = 0 ∧ ∀ old, old < 600 → bc old ≠ -1 → nB (bc old).toNat = if oB old = -1 then -1 else bc (oB old).toNat) ∨ (r = 1 ∧ ∃ old, old < 600 ∧ bc old ≠ -1 ∧ nB (bc old).toNat ≠ if oB old = -1 then -1 else bc (oB old).toNat))) m_no := fun h => by
        have := ih (i + 1) (by omega) (fun old ho => by
          by_cases e : old = i
          · rw [e]; exact h
          · exact hz old (by omega))
        rw [show ((i + 1 : Nat) : Int) = (i : Int) + 1 by omega] at this
        exact this
      refine b_43_2 hS ?_
      rw [Int.toNat_natCast, a1, b1]
      refine ⟨fun _ => ⟨by omega, by omega, fun e1 => ⟨fun e2 => ⟨by omega, nx (fun h => absurd e2 h)⟩, fun e2 => ⟨by omega, ?_⟩⟩, fun e1 => ⟨by omega, by omega, fun e2 => ⟨by omega, nx (fun h => absurd e2 h)⟩, fun e2 => ⟨by omega, ?_⟩⟩⟩, fun h => by omega⟩
      · rw [h117 _ (by omega)]
        refine ⟨fun e3 => ⟨by omega, nx (fun _ => by rw [if_pos e1]; exact e3)⟩, fun e3 => ⟨rfl, Or.inr ⟨rfl, i, hi2, e2, by rw [if_pos e1]; exact e3⟩⟩⟩
      · rw [h117 _ (by omega), (h197 (oB i).toNat (by omega)).1]
        refine ⟨fun e3 => ⟨by omega, nx (fun _ => by rw [if_neg e1]; exact e3)⟩, fun e3 => ⟨rfl, Or.inr ⟨rfl, i, hi2, e2, by rw [if_neg e1]; exact e3⟩⟩⟩
  exact c_43 hS (key 600 0 (by decide) (fun old ho => absurd ho (Nat.not_lt_zero old)))
end Mj6
