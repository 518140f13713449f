/-! A RENAME LEAVES TOKENS AS THEY WERE, BUT FOR THEIR COLUMNS -/
section Mj5
variable {X : Nat → List Int} {id r f m k j : Nat} {tx0 : List Int}
/-- from a column on, some columns -/
noncomputable def rwq (X : Nat → List Int) (id : Nat) (tx0 : List Int) (r : Nat) : Nat → Nat → List Int
  | 0, _ => []
  | n + 1, j => pce X id tx0 r 0 0 j ++ rwq X id tx0 r n (j + 1)
theorem rwq_rwp : ∀ n j, rwp X id tx0 r 0 0 j ++ rwq X id tx0 r n j = rwp X id tx0 r 0 0 (j + n)
  | 0, j => List.append_nil _
  | n + 1, j => by
    show rwp X id tx0 r 0 0 j ++ (pce X id tx0 r 0 0 j ++ rwq X id tx0 r n (j + 1)) = _
    rw [← List.append_assoc]
    show rwp X id tx0 r 0 0 (j + 1) ++ rwq X id tx0 r n (j + 1) = _
    rw [rwq_rwp n (j + 1)]
    congr 1
    omega
theorem rwc_rwq : rwc X id tx0 r 0 0 = rwq X id tx0 r (X r).length 0 := by
  have := rwq_rwp (X := X) (id := id) (tx0 := tx0) (r := r) (X r).length 0
  rw [Nat.zero_add] at this
  exact this.symm
theorem rwX_no {fr0 to : Nat} : rwX X id tx0 (-1) fr0 to r = rwc X id tx0 r 0 0 := by
  show rwc X id tx0 r (if (r : Int) = -1 then fr0 else 0) (if (r : Int) = -1 then to else 0) = _
  rw [if_neg (by omega), if_neg (by omega)]
theorem bnd_kn (hX : ∀ r, r < 24 → Rok (X r)) (hf : f < 3) (hk : k < 200) (h : bnd X (200 * f + k) ≠ -1) : k < (toks X f).length ∧ kn (ks X f) k = 0 := by
  rcases bnd_cas hX (show 200 * f + k < 600 by omega) with h1 | ⟨g, i, hg, hi, hb⟩
  · exact absurd h1 h
  · obtain ⟨t, e, t2, t3⟩ := bset_tok hX hg hi hb
    have lk := toks_len hX hg
    have : f = g ∧ k = t := by omega
    obtain ⟨rfl, rfl⟩ := this
    exact ⟨t2, t3⟩
theorem pce_neg (h : gx (owns X (r / 8) (r % 8)) j < 0) : pce X id tx0 r 0 0 j = [gx (X r) j] := by
  unfold pce
  rw [if_neg (show ¬ (0 ≤ j ∧ j < 0) by omega), if_neg (show ¬ (0 ≤ gx (owns X (r / 8) (r % 8)) j ∧ bnd X (200 * (r / 8) + (gx (owns X (r / 8) (r % 8)) j).toNat) = (id : Int)) from fun h2 => by omega)]
theorem take_c {l : List Int} {s : Nat} (h : j < l.length) : (l.drop j).take (s + 1) = gx l j :: (l.drop (j + 1)).take s := by
  rw [drop_cons h, List.take_succ_cons]
/-- columns of a token that is no one of those -/
theorem rwq_own {c : Nat} (hb : bnd X (200 * (r / 8) + c) ≠ (id : Int)) : ∀ (s j n : Nat), j + s ≤ (X r).length → s ≤ n → (∀ q, q < s → gx (owns X (r / 8) (r % 8)) (j + q) = (c : Int)) → rwq X id tx0 r n j = ((X r).drop j).take s ++ rwq X id tx0 r (n - s) (j + s)
  | 0, j, n, _, _, _ => by rw [List.take_zero]; rfl
  | s + 1, j, n, h1, h2, h3 => by
    obtain ⟨n', rfl⟩ : ∃ n', n = n' + 1 := ⟨n - 1, by omega⟩
    show pce X id tx0 r 0 0 j ++ rwq X id tx0 r n' (j + 1) = _
    have h0 := h3 0 (by omega)
    rw [Nat.add_zero] at h0
    have e : pce X id tx0 r 0 0 j = [gx (X r) j] := by
      unfold pce
      rw [if_neg (show ¬ (0 ≤ j ∧ j < 0) by omega), h0, Int.toNat_natCast, if_neg (fun h => hb h.2)]
    rw [e, rwq_own hb s (j + 1) n' (by omega) (by omega) (fun q hq => by rw [show j + 1 + q = j + (q + 1) by omega]; exact h3 (q + 1) (by omega)), take_c (by omega), show n' + 1 - (s + 1) = n' - s by omega, show j + (s + 1) = j + 1 + s by omega]
    rfl
/-- columns of a token that is written anew, behind its first one -/
theorem rwq_new {c : Nat} (hb : bnd X (200 * (r / 8) + c) = (id : Int)) : ∀ (s j n : Nat), s ≤ n → tc X (r / 8) c < j → (∀ q, q < s → gx (owns X (r / 8) (r % 8)) (j + q) = (c : Int)) → rwq X id tx0 r n j = rwq X id tx0 r (n - s) (j + s)
  | 0, j, n, _, _, _ => rfl
  | s + 1, j, n, h2, ht, h3 => by
    obtain ⟨n', rfl⟩ : ∃ n', n = n' + 1 := ⟨n - 1, by omega⟩
    show pce X id tx0 r 0 0 j ++ rwq X id tx0 r n' (j + 1) = _
    have h0 := h3 0 (by omega)
    rw [Nat.add_zero] at h0
    have e : pce X id tx0 r 0 0 j = [] := by
      unfold pce
      rw [if_neg (show ¬ (0 ≤ j ∧ j < 0) by omega), h0, Int.toNat_natCast, if_pos ⟨by omega, hb⟩, if_neg (by omega)]
    rw [e, rwq_new hb s (j + 1) n' (by omega) (by omega) (fun q hq => by rw [show j + 1 + q = j + (q + 1) by omega]; exact h3 (q + 1) (by omega)), show n' + 1 - (s + 1) = n' - s by omega, show j + (s + 1) = j + 1 + s by omega]
    rfl
theorem gx_rep {s q : Nat} {v : Int} {O : List Int} : gx (List.replicate s v ++ O) q = if q < s then v else gx O (q - s) := by
  rw [gx_app, List.length_replicate]
  by_cases c : q < s
  · rw [if_pos c, if_pos c]
    unfold gx
    rw [List.getD_eq_getElem?_getD, List.getElem?_replicate, if_pos c]
    rfl
  · rw [if_neg c, if_neg c]
/-- a row is written anew, word by word -/
theorem rw_rws (hX : ∀ r, r < 24 → Rok (X r)) (hr : r < 24) : ∀ (k j : Nat) (b : Bool) (c : Nat), (X r).length ≤ j + k → j ≤ (X r).length → (∀ q, j + q < (X r).length → gx (owns X (r / 8) (r % 8)) (j + q) = gx (lexL k (X r) j b c).2.1 q) →
    (∀ i, i < (lexL k (X r) j b c).1.length → c + i < (toks X (r / 8)).length ∧ tc X (r / 8) (c + i) = (rg (lexL k (X r) j b c).1 i).2.1 ∧ kn (ks X (r / 8)) (c + i) = (rg (lexL k (X r) j b c).1 i).1 ∧ tl X (r / 8) (c + i) = r % 8) → RwS tx0 k ((X r).drop j) b (rwq X id tx0 r ((X r).length - j) j) := by
  have hf : r / 8 < 3 := by omega
  have er : 8 * (r / 8) + r % 8 = r := by omega
  intro k
  induction k with
  | zero =>
    intro j b c h1 h2 _ _
    obtain rfl : j = (X r).length := by omega
    rw [Nat.sub_self]
    exact ⟨List.drop_eq_nil_of_le (Nat.le_refl _), rfl⟩
  | succ k ih =>
    intro j b c h1 h2 hO hT
    by_cases e : (X r).length ≤ j
    · obtain rfl : j = (X r).length := by omega
      rw [Nat.sub_self]
      exact Or.inl ⟨List.drop_eq_nil_of_le (Nat.le_refl _), rfl⟩
    have hj : j < (X r).length := by omega
    have hne : (X r).drop j ≠ [] := fun h => by
      have := congrArg List.length h
      rw [List.length_drop, List.length_nil] at this
      omega
    refine Or.inr ⟨hne, ?_⟩
    obtain ⟨n, hn⟩ : ∃ n, (X r).length - j = n + 1 := ⟨(X r).length - j - 1, by omega⟩
    rw [hn, turnS_drop, spanS_drop hj, h0_drop, sgn_in hj]
    unfold lexL at hO hT
    rw [if_neg e] at hO hT
    by_cases ht : turnsb (X r) j b = true
    · rw [if_pos ht] at hO hT
      have h3 := turnsb_le ht
      obtain ⟨n', rfl⟩ : ∃ n', n = n' + 1 := ⟨n - 1, by omega⟩
      have o0 := hO 0 (by omega)
      have o1 := hO 1 (by omega)
      rw [Nat.add_zero] at o0
      have hO2 : ∀ q, j + 2 + q < (X r).length → gx (owns X (r / 8) (r % 8)) (j + 2 + q) = gx (lexL k (X r) (j + 2) (!b) c).2.1 q := fun q hq => by
        have := hO (q + 2) (by omega)
        rw [show j + (q + 2) = j + 2 + q by omega] at this
        rw [this]
        rfl
      refine Or.inl ⟨ht, rwq X id tx0 r n' (j + 2), ?_, ?_⟩
      · show pce X id tx0 r 0 0 j ++ (pce X id tx0 r 0 0 (j + 1) ++ rwq X id tx0 r n' (j + 2)) = _
        rw [pce_neg (by rw [o0]; show (-2 : Int) < 0; decide), pce_neg (by rw [o1]; show (-2 : Int) < 0; decide), take_c hj, take_c (by omega), List.take_zero]
        rfl
      · rw [List.drop_drop]
        have := ih (j + 2) (!b) c (by omega) (by omega) hO2 hT
        rw [show (X r).length - (j + 2) = n' by omega] at this
        exact this
    rw [if_neg ht] at hO hT
    have htf : turnsb (X r) j b = false := Bool.eq_false_iff.mpr ht
    -- a comment or a blank
    have one : ∀ v : Int, v < 0 → gx (owns X (r / 8) (r % 8)) j = v → (∀ q, j + 1 + q < (X r).length → gx (owns X (r / 8) (r % 8)) (j + 1 + q) = gx (lexL k (X r) (j + 1) b c).2.1 q) → (∀ i, i < (lexL k (X r) (j + 1) b c).1.length → c + i < (toks X (r / 8)).length ∧ tc X (r / 8) (c + i) = (rg (lexL k (X r) (j + 1) b c).1 i).2.1 ∧ kn (ks X (r / 8)) (c + i) = (rg (lexL k (X r) (j + 1) b c).1 i).1 ∧ tl X (r / 8) (c + i) = r % 8) →
        ∃ T', rwq X id tx0 r (n + 1) j = ((X r).drop j).take 1 ++ T' ∧ RwS tx0 k (((X r).drop j).drop 1) b T' := by
      intro v hv o0 hO2 hT2
      refine ⟨rwq X id tx0 r n (j + 1), ?_, ?_⟩
      · show pce X id tx0 r 0 0 j ++ rwq X id tx0 r n (j + 1) = _
        rw [pce_neg (by rw [o0]; exact hv), take_c hj, List.take_zero]
      · rw [List.drop_drop]
        have := ih (j + 1) b c (by omega) (by omega) hO2 hT2
        rw [show (X r).length - (j + 1) = n by omega] at this
        exact this
    by_cases hb : b = true
    · rw [if_pos hb] at hO hT
      have o0 := hO 0 (by omega)
      rw [Nat.add_zero] at o0
      refine Or.inr (Or.inl ⟨htf, Or.inl hb, one (-2) (by decide) o0 (fun q hq => ?_) hT⟩)
      have := hO (q + 1) (by omega)
      rw [show j + (q + 1) = j + 1 + q by omega] at this
      rw [this]
      rfl
    rw [if_neg hb] at hO hT
    by_cases h32 : gx (X r) j = 32
    · rw [if_pos h32] at hO hT
      have o0 := hO 0 (by omega)
      rw [Nat.add_zero] at o0
      refine Or.inr (Or.inl ⟨htf, Or.inr h32, one (-1) (by decide) o0 (fun q hq => ?_) hT⟩)
      have := hO (q + 1) (by omega)
      rw [show j + (q + 1) = j + 1 + q by omega] at this
      rw [this]
      rfl
    rw [if_neg h32] at hO hT
    have sp := span_pos (X r) j hj
    have sl := span_le (X r) j hj
    have t0 := hT 0 (Nat.succ_pos _)
    change c + 0 < _ ∧ tc X (r / 8) (c + 0) = j ∧ kn (ks X (r / 8)) (c + 0) = clsw (seg (X r) j (span (X r) j)) ∧ tl X (r / 8) (c + 0) = r % 8 at t0
    rw [Nat.add_zero] at t0
    have own : ∀ q, q < span (X r) j → gx (owns X (r / 8) (r % 8)) (j + q) = (c : Int) := fun q hq => by
      rw [hO q (by omega)]
      show gx (List.replicate (span (X r) j) (c : Int) ++ _) q = _
      rw [gx_rep, if_pos hq]
    have nx := ih (j + span (X r) j) b (c + 1) (by omega) (by omega) (fun q hq => by
      have := hO (span (X r) j + q) (by omega)
      rw [show j + (span (X r) j + q) = j + span (X r) j + q by omega] at this
      rw [this]
      show gx (List.replicate (span (X r) j) (c : Int) ++ _) (span (X r) j + q) = _
      rw [gx_rep, if_neg (by omega), Nat.add_sub_cancel_left]) (fun i hi => by
      have := hT (i + 1) (by show i + 1 < _ + 1; omega)
      rw [show c + 1 + i = c + (i + 1) by omega]
      exact this)
    refine Or.inr (Or.inr ⟨htf, Bool.eq_false_iff.mpr hb, h32, rwq X id tx0 r ((X r).length - (j + span (X r) j)) (j + span (X r) j), ?_, by rw [List.drop_drop]; exact nx⟩)
    by_cases hbd : bnd X (200 * (r / 8) + c) = (id : Int)
    · refine Or.inr ⟨?_, ?_, ?_⟩
      · have lk := toks_len hX hf
        have k0 := bnd_kn hX hf (show c < 200 by omega) (by rw [hbd]; omega)
        have nl := name_let k0.2
        have e1 : chr X (r / 8) c 0 = gx (X r) j := by unfold chr; rw [t0.2.2.2, er, t0.2.1]; rfl
        rw [e1] at nl
        exact isL_rng.mpr ⟨nl.2.1, nl.2.2⟩
      · have lk := toks_len hX hf
        have k0 := bnd_kn hX hf (show c < 200 by omega) (by rw [hbd]; omega)
        show clsw (seg (X r) j (span (X r) j)) = 0
        rw [← t0.2.2.1, k0.2]
      · show pce X id tx0 r 0 0 j ++ rwq X id tx0 r n (j + 1) = _
        have e0 := own 0 (by omega)
        rw [Nat.add_zero] at e0
        have e1 : pce X id tx0 r 0 0 j = tx0 := by
          unfold pce
          rw [if_neg (show ¬ (0 ≤ j ∧ j < 0) by omega), e0, Int.toNat_natCast, if_pos ⟨by omega, hbd⟩, if_pos t0.2.1]
        rw [e1, rwq_new (tx0 := tx0) hbd (span (X r) j - 1) (j + 1) n (by omega) (by omega) (fun q hq => by rw [show j + 1 + q = j + (q + 1) by omega]; exact own (q + 1) (by omega)), show n - (span (X r) j - 1) = (X r).length - (j + span (X r) j) by omega, show j + 1 + (span (X r) j - 1) = j + span (X r) j by omega]
    · refine Or.inl ?_
      rw [rwq_own (tx0 := tx0) hbd (span (X r) j) j (n + 1) sl (by omega) own, show n + 1 - span (X r) j = (X r).length - (j + span (X r) j) by omega]
/-- classes and mode of a row that is written anew -/
theorem rw_cls (hX : ∀ r, r < 24 → Rok (X r)) (hf : f < 3) (hm : m < 8) (hw : ∀ c ∈ tx0, isL c = true) (hne : tx0 ≠ []) (hk : kwd tx0 = 0) (hl : (rwc X id tx0 (8 * f + m) 0 0).length ≤ 24) :
    cls 24 (rwc X id tx0 (8 * f + m) 0 0) (md X f m) = cls 24 (X (8 * f + m)) (md X f m) := by
  have e1 : (8 * f + m) / 8 = f := by omega
  have e2 : (8 * f + m) % 8 = m := by omega
  have hl2 := (hX (8 * f + m) (by omega)).1
  have h := rw_rws (id := id) (tx0 := tx0) hX (show 8 * f + m < 24 by omega) 24 0 (md X f m) (fs X f m) (by omega) (Nat.zero_le _) (fun q hq => by
    rw [e1, e2, Nat.zero_add]
    show gx (lexL 24 (X (8 * f + m)) 0 (lexTo X f m).2 (lexTo X f m).1.length).2.1 q = _
    rw [md_lex hX hf m (by omega), lexTo_fs hX hf m (by omega)]) (fun i hi => by
    have e3 := (lexL_c0 24 (X (8 * f + m)) 0 (md X f m) (fs X f m) 0).1
    rw [e3] at hi ⊢
    rw [e1, e2]
    have t := tok_tl hX hf hm (show i < nt X f m from hi)
    exact ⟨(tok_at hX hf hm hi).1, t.2.2.1, t.1, t.2.1⟩)
  rw [Nat.sub_zero, List.drop_zero, ← rwc_rwq] at h
  exact RwS.clz hw hne hk 24 _ _ _ h 24 hl
end Mj5
