/-! TOKENS OF ROWS THAT COME FROM OTHER ONES -/
/-- what a token has become -/
noncomputable def bcm (X Y : Nat → List Int) (og : Nat → Int) (old : Nat) : Int := @dite Int (∃ new, MvT X Y og old new) (Classical.propDecidable _) (fun h => ((Classical.choose h : Nat) : Int)) (fun _ => -1)
/-- a closed function, and its lines -/
def RgF (X : Nat → List Int) (f t l top n : Nat) : Prop := f < 3 ∧ 1 ≤ t ∧ t < l ∧ l < (toks X f).length ∧ kn (ks X f) (t - 1) = 3 ∧ kn (ks X f) l = 13 ∧ tl X f (t - 1) = top ∧ tl X f l + 1 = top + n ∧ (∀ k, k < (toks X f).length → top ≤ tl X f k → tl X f k < top + n → t - 1 ≤ k ∧ k ≤ l) ∧ ∃ e ∈ Fw X f, e.1 = (t : Int) ∧ e.2.2.2 = (l : Int)
section Ml3
variable {F : MF} {X Y : Nat → List Int} {og : Nat → Int} {f t l top n o at' a b m r i j k : Nat} {P : Nat → Prop} {old new o1 o2 n1 n2 v w : Nat}
/-- a token and its row -/
theorem tk_row (hX : ∀ r, r < 24 → Rok (X r)) (hf : f < 3) (hk : k < (toks X f).length) : ∃ i, tl X f k < 8 ∧ i < nt X f (tl X f k) ∧ k = fs X f (tl X f k) + i := by
  obtain ⟨m, i, h1, h2, h3⟩ := tok_row hX hf hk
  have := (tok_tl hX hf h1 h2).2.1
  rw [← h3] at this
  rw [this]
  exact ⟨i, h1, h2, h3⟩
theorem frt_q (hf : f < 3) (hm : m < 8) (h : 0 < nt X f m) : frt X (8 * f + m) = ((200 * f + fs X f m : Nat) : Int) := by rw [frt_at hm, if_pos h]
theorem mv_iff (hX : ∀ r, r < 24 → Rok (X r)) (h : OgI P X Y og) : MvT X Y og old new ↔ ∃ f m g q i : Nat, f < 3 ∧ m < 8 ∧ g < 3 ∧ q < 8 ∧ og (8 * g + q) = ((8 * f + m : Nat) : Int) ∧ i < nt X f m ∧ nt Y g q = nt X f m ∧ old = 200 * f + (fs X f m + i) ∧ new = 200 * g + (fs Y g q + i) ∧ ∀ j, ron Y g q j = ron X f m j := by
  obtain ⟨i1, i2, i3, i4, i5, i6, i7⟩ := h
  have rw1 : ∀ g q f m : Nat, g < 3 → q < 8 → m < 8 → og (8 * g + q) = ((8 * f + m : Nat) : Int) → nt Y g q = nt X f m ∧ ∀ j, ron Y g q j = ron X f m j := fun g q f m hg hq hm h => by
    have := i4 (8 * g + q) (by omega) (by omega)
    rw [h, Int.toNat_natCast, (d8 hq).1, (d8 hq).2, (d8 hm).1, (d8 hm).2] at this
    unfold ron nt
    rw [this.1, this.2]
    exact ⟨rfl, fun _ => rfl⟩
  constructor
  · rintro ⟨g, q, i, h1, h2, h3, h4, h5, h6, h7⟩
    have hr := (i2 (8 * g + q) (by omega)).resolve_left h5
    obtain ⟨f, m, hf, hm, e⟩ := r8 (show (og (8 * g + q)).toNat < 24 by omega)
    have e2 : og (8 * g + q) = ((8 * f + m : Nat) : Int) := by omega
    obtain ⟨a1, a2⟩ := rw1 g q f m h1 h2 hm e2
    rw [e2, Int.toNat_natCast, frt_q hf hm (by omega)] at h7
    exact ⟨f, m, g, q, i, hf, hm, h1, h2, e2, by omega, a1, by omega, h4, a2⟩
  · rintro ⟨f, m, g, q, i, hf, hm, hg, hq, e2, h1, h2, h3, h4, h5⟩
    refine ⟨g, q, i, hg, hq, by omega, h4, by omega, ?_, ?_⟩
    · rw [e2, Int.toNat_natCast, frt_q hf hm (by omega)]; omega
    · rw [e2, Int.toNat_natCast, frt_q hf hm (by omega)]; omega
theorem mv_tok (hX : ∀ r, r < 24 → Rok (X r)) (h : OgI P X Y og) (hm : MvT X Y og old new) : old < 600 ∧ vid X old ∧ new < 600 ∧ vid Y new ∧ kn (ks Y (new / 200)) (new % 200) = kn (ks X (old / 200)) (old % 200) ∧ tc Y (new / 200) (new % 200) = tc X (old / 200) (old % 200) ∧ og (8 * (new / 200) + tl Y (new / 200) (new % 200)) = ((8 * (old / 200) + tl X (old / 200) (old % 200) : Nat) : Int) := by
  obtain ⟨f, m, g, q, i, hf, hm, hg, hq, e2, h1, h2, h3, h4, h5⟩ := (mv_iff hX h).mp hm
  have hY := h.1
  have lX := toks_len hX hf
  have lY := toks_len hY hg
  have tX := tok_at hX hf hm h1
  have tY := tok_at hY hg hq (show i < nt Y g q by omega)
  have uX := tok_tl hX hf hm h1
  have uY := tok_tl hY hg hq (show i < nt Y g q by omega)
  have d1 : old / 200 = f ∧ old % 200 = fs X f m + i := by omega
  have d2 : new / 200 = g ∧ new % 200 = fs Y g q + i := by omega
  unfold vid
  rw [d1.1, d1.2, d2.1, d2.2, uX.1, uY.1, uX.2.2.1, uY.2.2.1, uX.2.1, uY.2.1, h5]
  exact ⟨by omega, tX.1, by omega, tY.1, rfl, rfl, e2⟩
theorem mv_fun (hX : ∀ r, r < 24 → Rok (X r)) (h : OgI P X Y og) (h1 : MvT X Y og old n1) (h2 : MvT X Y og old n2) : n1 = n2 := by
  obtain ⟨f, m, g, q, i, hf, hm, hg, hq, e2, a1, a2, a3, a4, a5⟩ := (mv_iff hX h).mp h1
  obtain ⟨f', m', g', q', i', hf', hm', hg', hq', e2', b1, b2, b3, b4, b5⟩ := (mv_iff hX h).mp h2
  have l1 := toks_len hX hf
  have l2 := toks_len hX hf'
  have t1 := tok_at hX hf hm a1
  have t2 := tok_at hX hf' hm' b1
  have u1 := (tok_tl hX hf hm a1).2.1
  have u2 := (tok_tl hX hf' hm' b1).2.1
  have : f' = f := by omega
  subst this
  have e : fs X f' m' + i' = fs X f' m + i := by omega
  rw [e, u1] at u2
  subst u2
  have := h.2.2.1 (8 * g + q) (8 * g' + q') (by omega) (by omega) (by omega) (by rw [e2, e2'])
  have : g' = g := by omega
  subst this
  have : q' = q := by omega
  subst this
  omega
theorem mv_inj (hX : ∀ r, r < 24 → Rok (X r)) (h : OgI P X Y og) (h1 : MvT X Y og o1 new) (h2 : MvT X Y og o2 new) : o1 = o2 := by
  obtain ⟨f, m, g, q, i, hf, hm, hg, hq, e2, a1, a2, a3, a4, a5⟩ := (mv_iff hX h).mp h1
  obtain ⟨f', m', g', q', i', hf', hm', hg', hq', e2', b1, b2, b3, b4, b5⟩ := (mv_iff hX h).mp h2
  have hY := h.1
  have l1 := toks_len hY hg
  have l2 := toks_len hY hg'
  have t1 := tok_at hY hg hq (show i < nt Y g q by omega)
  have t2 := tok_at hY hg' hq' (show i' < nt Y g' q' by omega)
  have u1 := (tok_tl hY hg hq (show i < nt Y g q by omega)).2.1
  have u2 := (tok_tl hY hg' hq' (show i' < nt Y g' q' by omega)).2.1
  have : g' = g := by omega
  subst this
  have e : fs Y g' q' + i' = fs Y g' q + i := by omega
  rw [e, u1] at u2
  subst u2
  rw [e2] at e2'
  have : f' = f := by omega
  subst this
  have : m' = m := by omega
  subst this
  omega
theorem nt_ne (h : 0 < nt X f m) : X (8 * f + m) ≠ [] := fun h2 => by
  have e1 : nt X f m = (rtl (X (8 * f + m)) (md X f m)).length := rfl
  rw [e1, h2] at h
  exact absurd h (Nat.lt_irrefl 0)
/-- no token is lost -/
theorem mv_ex (hX : ∀ r, r < 24 → Rok (X r)) (h : OgI P X Y og) (ho : old < 600) (hv : vid X old) : ∃ new, MvT X Y og old new := by
  have hf : old / 200 < 3 := by omega
  obtain ⟨i, a1, a2, a3⟩ := tk_row hX hf hv
  obtain ⟨r, r1, r2⟩ := h.2.2.2.2.1 (8 * (old / 200) + tl X (old / 200) (old % 200)) (by omega) (nt_ne (by omega))
  obtain ⟨g, q, hg, hq, rfl⟩ := r8 r1
  refine ⟨200 * g + (fs Y g q + i), (mv_iff hX h).mpr ⟨old / 200, _, g, q, i, hf, a1, hg, hq, r2, a2, ?_, by omega, rfl, ?_⟩⟩
  all_goals
    have := h.2.2.2.1 (8 * g + q) (by omega) (by omega)
    rw [r2, Int.toNat_natCast, (d8 hq).1, (d8 hq).2, (d8 a1).1, (d8 a1).2] at this
  · unfold nt
    rw [this.1, this.2]
  · intro j
    unfold ron
    rw [this.1, this.2]
theorem bcm_at (hX : ∀ r, r < 24 → Rok (X r)) (h : OgI P X Y og) (hm : MvT X Y og old new) : bcm X Y og old = (new : Int) := by
  have e : ∃ new, MvT X Y og old new := ⟨new, hm⟩
  unfold bcm
  rw [dif_pos e]
  rw [mv_fun hX h (Classical.choose_spec e) hm]
theorem bcm_no (h : ∀ new, ¬ MvT X Y og old new) : bcm X Y og old = -1 := by
  unfold bcm
  rw [dif_neg (fun ⟨new, hm⟩ => h new hm)]
theorem bcm_cs (hX : ∀ r, r < 24 → Rok (X r)) (h : OgI P X Y og) : (bcm X Y og old = -1 ∧ ∀ new, ¬ MvT X Y og old new) ∨ ∃ new : Nat, bcm X Y og old = (new : Int) ∧ MvT X Y og old new := by
  by_cases e : ∃ new, MvT X Y og old new
  · obtain ⟨new, hm⟩ := e
    exact Or.inr ⟨new, bcm_at hX h hm, hm⟩
  · exact Or.inl ⟨bcm_no (fun new hm => e ⟨new, hm⟩), fun new hm => e ⟨new, hm⟩⟩
theorem BC.eq (hX : ∀ r, r < 24 → Rok (X r)) (h : OgI P X Y og) (hb : BC F X Y og) (ho : old < 600) : F 197 old = bcm X Y og old := by
  rcases hb old ho with ⟨a, b⟩ | ⟨new, a, b⟩
  · rw [a, bcm_no b]
  · rw [a, bcm_at hX h b]
/-- how many tokens stand ahead of a line, if some lines have none -/
theorem fs_gap : ∀ d, (∀ j, j < d → nt X f (m + j) = 0) → fs X f (m + d) = fs X f m
  | 0, _ => rfl
  | d + 1, h => by
    show fs X f (m + d) + nt X f (m + d) = _
    rw [fs_gap d (fun j hj => h j (by omega)), h d (Nat.lt_succ_self d), Nat.add_zero]
/-- the next token, by rows -/
theorem tk_next (hX : ∀ r, r < 24 → Rok (X r)) (hf : f < 3) (hk : k + 1 < (toks X f).length) : ∃ m i d, m + d < 8 ∧ i < nt X f m ∧ k = fs X f m + i ∧ tl X f k = m ∧ tl X f (k + 1) = m + d ∧ 0 < nt X f (m + d) ∧ ((d = 0 ∧ i + 1 < nt X f m) ∨ (0 < d ∧ i + 1 = nt X f m ∧ ∀ j, 0 < j → j < d → nt X f (m + j) = 0)) := by
  obtain ⟨i, a1, a2, a3⟩ := tk_row hX hf (show k < (toks X f).length by omega)
  obtain ⟨i', b1, b2, b3⟩ := tk_row hX hf hk
  have mono : ∀ a b, a ≤ b → fs X f a ≤ fs X f b := fun a b h => fs_le a h
  have st : ∀ a, fs X f (a + 1) = fs X f a + nt X f a := fun _ => rfl
  have hle : tl X f k ≤ tl X f (k + 1) := (tok_srt hX hf (Nat.lt_succ_self k) hk).1
  refine ⟨tl X f k, i, tl X f (k + 1) - tl X f k, by omega, a2, a3, rfl, by omega, by rw [show tl X f k + (tl X f (k + 1) - tl X f k) = tl X f (k + 1) by omega]; omega, ?_⟩
  by_cases e : tl X f (k + 1) = tl X f k
  · rw [e] at b2 b3
    exact Or.inl ⟨by omega, by omega⟩
  · have h1 := mono (tl X f k + 1) (tl X f (k + 1)) (by omega)
    rw [st] at h1
    refine Or.inr ⟨by omega, by omega, fun j j1 j2 => ?_⟩
    have h2 := mono (tl X f k + 1) (tl X f k + j) (by omega)
    have h3 := mono (tl X f k + j + 1) (tl X f (k + 1)) (by omega)
    rw [st] at h2 h3
    omega
/-- the next token becomes the next one -/
theorem mv_nx (hX : ∀ r, r < 24 → Rok (X r)) (h : OgI P X Y og) (hf : f < 3) (hk : k + 1 < (toks X f).length) (hm : MvT X Y og (200 * f + k) new) (hP : ∀ q, tl X f k ≤ q → q ≤ tl X f (k + 1) → (P (8 * f + q) ↔ P (8 * f + tl X f k))) : MvT X Y og (200 * f + (k + 1)) (new + 1) ∧ new % 200 + 1 < 200 := by
  have hY := h.1
  have lk := toks_len hX hf
  obtain ⟨m, i, d, h1, h2, h3, h4, h5, h6, h7⟩ := tk_next hX hf hk
  rw [h4, h5] at hP
  obtain ⟨f1, m1, g, q, i1, hf1, hm1, hg, hq, e2, a1, a2, a3, a4, a5⟩ := (mv_iff hX h).mp hm
  have l1 := toks_len hX hf1
  have t1 := tok_at hX hf1 hm1 a1
  have u1 := (tok_tl hX hf1 hm1 a1).2.1
  have : f1 = f := by omega
  subst this
  have ek : fs X f1 m1 + i1 = k := by omega
  rw [ek, h4] at u1
  subst u1
  have : i1 = i := by omega
  subst this
  have tY := tok_at hY hg hq (show i1 < nt Y g q by omega)
  have lY := toks_len hY hg
  rcases h7 with ⟨rfl, h7⟩ | ⟨h7, h8, h9⟩
  · have tY2 := tok_at hY hg hq (show i1 + 1 < nt Y g q by omega)
    exact ⟨(mv_iff hX h).mpr ⟨f1, m, g, q, i1 + 1, hf1, hm1, hg, hq, e2, h7, a2, by omega, by omega, a5⟩, by omega⟩
  · have e8 : (8 * f1 + m + d) / 8 = f1 ∧ (8 * f1 + m + d) % 8 = m + d := by omega
    obtain ⟨r, r1, r2, r3⟩ := h.2.2.2.2.2.1 (8 * f1 + m) d (by omega) (by omega) (by rw [(d8 hm1).1, (d8 hm1).2]; omega) (by rw [e8.1, e8.2]; exact h6) (fun j hj => by rw [Nat.add_assoc]; exact hP (m + j) (by omega) (by omega))
    have er : r = 8 * g + q := h.2.2.1 r (8 * g + q) (by omega) (by omega) (by have := r3 0 (Nat.zero_le _); rw [Nat.add_zero] at this; omega) (by have := r3 0 (Nat.zero_le _); rw [Nat.add_zero] at this; rw [this, e2]; rfl)
    subst er
    have hqd : q + d < 8 := by omega
    have rn : ∀ j, j ≤ d → nt Y g (q + j) = nt X f1 (m + j) ∧ ∀ z, ron Y g (q + j) z = ron X f1 (m + j) z := fun j hj => by
      have := h.2.2.2.1 (8 * g + (q + j)) (by omega) (by rw [← Nat.add_assoc, r3 j hj]; omega)
      rw [← Nat.add_assoc, r3 j hj, Int.toNat_natCast, Nat.add_assoc, Nat.add_assoc, (d8 (show q + j < 8 by omega)).1, (d8 (show q + j < 8 by omega)).2, (d8 (show m + j < 8 by omega)).1, (d8 (show m + j < 8 by omega)).2] at this
      unfold nt ron
      rw [this.1, this.2]
      exact ⟨rfl, fun _ => rfl⟩
    have gX : fs X f1 (m + d) = fs X f1 m + nt X f1 m := by
      have := fs_gap (X := X) (f := f1) (m := m + 1) (d - 1) (fun j hj => by rw [show m + 1 + j = m + (j + 1) by omega]; exact h9 (j + 1) (by omega) (by omega))
      rw [show m + 1 + (d - 1) = m + d by omega] at this
      exact this
    have gY : fs Y g (q + d) = fs Y g q + nt Y g q := by
      have := fs_gap (X := Y) (f := g) (m := q + 1) (d - 1) (fun j hj => by rw [show q + 1 + j = q + (j + 1) by omega, (rn (j + 1) (by omega)).1]; exact h9 (j + 1) (by omega) (by omega))
      rw [show q + 1 + (d - 1) = q + d by omega] at this
      exact this
    have rd := rn d (Nat.le_refl _)
    have tY2 := tok_at hY hg hqd (show 0 < nt Y g (q + d) by rw [rd.1]; exact h6)
    refine ⟨(mv_iff hX h).mpr ⟨f1, m + d, g, q + d, 0, hf1, h1, hg, hqd, ?_, h6, rd.1, by omega, by omega, rd.2⟩, by omega⟩
    have := r3 d (Nat.le_refl _)
    rw [← Nat.add_assoc, this, Nat.add_assoc]
/-- what a token is bound to lies on its side, or it is a call -/
theorem bnd_far {id : Nat} (hX : ∀ r, r < 24 → Rok (X r)) (hid : id < 600) (hb : bnd X id = (v : Int)) :
    (id / 200 = v / 200 ∧ ∀ e ∈ Fw X (id / 200), ∀ p l : Nat, e.1 = (p : Int) → e.2.2.2 = (l : Int) → ((p - 1 ≤ id % 200 ∧ id % 200 ≤ l) ↔ (p - 1 ≤ v % 200 ∧ v % 200 ≤ l))) ∨ (kn (ks X (id / 200)) (id % 200 + 1) = 10 ∧ isF X v = true) := by
  rcases bnd_cas hX hid with h | ⟨g, ik, hg, hik, hbk⟩
  · omega
  · obtain ⟨m, m1, m2, m3⟩ := bset_tok hX hg hik hbk
    have lg := toks_len hX hg
    have e0 : id = 200 * g + m := by omega
    subst e0
    rw [m1] at hbk
    have d1 : (200 * g + m) / 200 = g ∧ (200 * g + m) % 200 = m := by omega
    have hv := bnd_at (id := 200 * g + m) hX hg hik (by omega) (by rw [m1]; exact hbk)
    rw [hb] at hv
    rw [d1.1, d1.2]
    unfold bval at hv
    by_cases o15 : wo (gx (Cw X g) ik) = 15
    · rw [if_pos o15] at hv
      have ew : wt (gx (Cw X g) ik) = (m : Int) := by
        rcases hbk.1 with h | h
        · omega
        · exact h.2.symm
      have := Cw_call hX hg _ (gx_mem hik) o15
      rw [ew, Int.toNat_natCast] at this
      refine Or.inr ⟨this, ?_⟩
      rcases fnF_rng (X := X) (f := g) (k := (wt (gx (Cw X g) ik)).toNat) hX with h | ⟨g2, p, e1, e2, e3, en, e4, e5⟩
      · omega
      · have lg2 := toks_len hX e1
        unfold isF
        refine decide_eq_true (fix_mem _ _ _ ⟨en, ?_, ?_⟩)
        · rw [show v / 200 = g2 by omega]; exact e4
        · rw [e5]; omega
    · rw [if_neg o15] at hv
      by_cases o8 : wo (gx (Cw X g) ik) = 8 ∨ wo (gx (Cw X g) ik) = 14
      · have ew : wt (gx (Cw X g) ik) = (m : Int) := by
          rcases hbk.1 with h | h
          · omega
          · exact h.2.symm
        have ek : wbd X g ik = (v : Int) := by
          unfold wbd
          rw [ew, Int.toNat_natCast, hb]
        obtain ⟨j, tT, j1, j2, j3, j4, j5⟩ := dcl_word hX hg hik o8 (by rw [ek]; omega)
        obtain ⟨m', c1, c2, c3⟩ := bset_tok hX hg (show j < (Cw X g).length by omega) j3
        have ev : v = 200 * g + tT := by omega
        have htT : tT < 200 := by omega
        subst ev
        have d2 : (200 * g + tT) / 200 = g ∧ (200 * g + tT) % 200 = tT := by omega
        rw [d2.1, d2.2]
        refine Or.inl ⟨rfl, fun e he p l ep el => ?_⟩
        obtain ⟨p', n, c, p1, p2, p3, p4, p5, p6, p7, p8, p9, p10⟩ := Fw_span hX hg he
        have : p' = p := by omega
        subst this
        obtain ⟨l', l1, l2, l3, l4, l5, l6⟩ := p10 (by omega)
        have : l' = l := by omega
        subst this
        have FS' := (Cw_lv hX hg).2 c p5 (by rw [p6]; exact wo_mk (by decide))
        obtain ⟨p0, n0, e01, e02, e03, e04⟩ := ((Cw_lv hX hg).1 _ (gx_mem p5)).2 (by rw [p6]; exact wo_mk (by decide))
        have hw2 : wt (gx (Cw X g) c) = (p' : Int) := by rw [p6]; exact wt_mk (by decide) (by have := toks_len hX hg; omega)
        -- a token lies in the function where its word does
        have side : ∀ q z : Nat, q < (Cw X g).length → bset X g (gx (Cw X g) q) (z : Int) → ((p' - 1 ≤ z ∧ z ≤ l') ↔ (c ≤ q ∧ ∀ q', c < q' → q' ≤ q → wo (gx (Cw X g) q') ≠ 2)) := fun q z hq hz => by
          obtain ⟨z', z1, z2, z3⟩ := bset_tok hX hg hq hz
          have : z' = z := by omega
          subst this
          have hz0 : z' ≠ p' - 1 := fun h => by rw [h, p9] at z3; exact absurd z3 (by decide)
          constructor
          · rintro ⟨b1, b2⟩
            have hcq : c ≤ q := by
              by_cases h : c ≤ q
              · exact h
              · have := FS'.1 q (by omega) _ hz.1
                omega
            refine ⟨hcq, fun q' b3 b4 b5 => ?_⟩
            have := l6 q' b3 (by omega) b5
            have h2 : wt (gx (Cw X g) q') ≤ (z' : Int) := by
              by_cases h : q' = q
              · subst h
                rcases hz.1 with h3 | h3
                · exact h3.2.1
                · omega
              · exact ((Cw_lv hX hg).2 q' (by omega) b5).2 q (by omega) hq _ hz.1
            omega
          · rintro ⟨b1, b2⟩
            have h1 := l5 q b1 hq b2 _ hz.1
            have h2 : (p' : Int) ≤ (z' : Int) := by
              by_cases h : q = c
              · subst h
                rcases hz.1 with h3 | h3
                · rw [hw2] at h3; exact h3.2.1
                · rw [p6, wo_mk (by decide)] at h3; omega
              · have := FS'.2 q (by omega) hq _ hz.1
                omega
            omega
        rw [side ik m hik hbk, side j tT (by omega) j3]
        constructor
        · rintro ⟨b1, b2⟩
          have hcj : c ≤ j := by
            by_cases h : c ≤ j
            · exact h
            · exact absurd (by rw [p6]; exact wo_mk (by decide)) (j5 c (by omega) b1)
          exact ⟨hcj, fun q' b3 b4 => b2 q' b3 (by omega)⟩
        · rintro ⟨b1, b2⟩
          refine ⟨by omega, fun q' b3 b4 => ?_⟩
          by_cases h : q' ≤ j
          · exact b2 q' b3 h
          · exact j5 q' (by omega) b4
      · rw [if_neg o8] at hv
        have : v = 200 * g + m := by omega
        subst this
        rw [d1.1, d1.2]
        exact Or.inl ⟨rfl, fun _ _ _ _ _ _ => Iff.rfl⟩
theorem rg_in (hX : ∀ r, r < 24 → Rok (X r)) (h : RgF X f t l top n) (hk : k < (toks X f).length) : inR f top n (8 * f + tl X f k) ↔ (t - 1 ≤ k ∧ k ≤ l) := by
  obtain ⟨h1, h2, h3, h4, h5, h6, h7, h8, h9, h10⟩ := h
  have o := toks_ok hk
  unfold inR
  rw [(d8 o.1).1, (d8 o.1).2]
  constructor
  · rintro ⟨-, a, b⟩
    exact h9 k hk a b
  · rintro ⟨a, b⟩
    have c1 : tl X f (t - 1) ≤ tl X f k := by
      by_cases e : t - 1 = k
      · rw [e]; exact Nat.le_refl _
      · exact (tok_srt hX h1 (show t - 1 < k by omega) hk).1
    have c2 : tl X f k ≤ tl X f l := by
      by_cases e : k = l
      · rw [e]; exact Nat.le_refl _
      · exact (tok_srt hX h1 (show k < l by omega) h4).1
    exact ⟨rfl, by omega, by omega⟩
/-- a binding from file to file is a call of a function -/
theorem nd_call (hX : ∀ r, r < 24 → Rok (X r)) (hR : RgF X f t l top n) (h : OgI (inR f top n) X Y og) (hm : MvT X Y og old new) (hb : bnd X old = (v : Int)) (hw : MvT X Y og v w) (hn : new / 200 ≠ w / 200) : kn (ks Y (new / 200)) (new % 200) = 0 ∧ kn (ks Y (new / 200)) (new % 200 + 1) = 10 ∧ wasF X old = 1 := by
  have t1 := mv_tok hX h hm
  have t2 := mv_tok hX h hw
  obtain ⟨f', k, ho⟩ : ∃ f' k, f' = old / 200 ∧ k = old % 200 := ⟨_, _, rfl, rfl⟩
  have hf' : f' < 3 := by omega
  have hbk := bnd_kn (f := f') (k := k) hX hf' (by omega) (by rw [show 200 * f' + k = old by omega, hb]; omega)
  rcases bnd_far hX t1.1 hb with ⟨a1, a2⟩ | ⟨a1, a2⟩
  · exfalso
    refine hn ?_
    have r1 := t1.2.2.2.2.2.2
    have r2 := t2.2.2.2.2.2.2
    have o1 := toks_ok t1.2.1
    have o2 := toks_ok t2.2.1
    have o3 := toks_ok t1.2.2.2.1
    have o4 := toks_ok t2.2.2.2.1
    have := h.2.2.2.2.2.2 (8 * (new / 200) + tl Y (new / 200) (new % 200)) (8 * (w / 200) + tl Y (w / 200) (w % 200)) (by omega) (by omega) (by omega) (by omega) (by rw [r1, r2, Int.toNat_natCast, Int.toNat_natCast, (d8 o1.1).1, (d8 o2.1).1, a1]) (by
      rw [r1, r2, Int.toNat_natCast, Int.toNat_natCast]
      by_cases e : old / 200 = f
      · obtain ⟨en, e1, e2, e3⟩ := hR.2.2.2.2.2.2.2.2.2
        have e4 : v / 200 = f := by omega
        have := a2 en (by rw [e]; exact e1) t l e2 e3
        have b1 := t1.2.1
        have b2 := t2.2.1
        unfold vid at b1 b2
        rw [e] at b1 ⊢
        rw [e4] at b2 ⊢
        rw [rg_in hX hR b1, rg_in hX hR b2]
        exact this
      · unfold inR
        rw [(d8 o1.1).1, (d8 o2.1).1]
        exact ⟨fun h => absurd h.1 e, fun h => absurd h.1 (by omega)⟩)
    rw [(d8 o3.1).1, (d8 o4.1).1] at this
    exact this
  · rw [← ho.1, ← ho.2] at a1
    have hk1 : k + 1 < (toks X f').length := kn_tok (by rw [a1]; decide)
    have e0 : old = 200 * f' + k := by omega
    have hP : ∀ q, tl X f' k ≤ q → q ≤ tl X f' (k + 1) → (inR f top n (8 * f' + q) ↔ inR f top n (8 * f' + tl X f' k)) := by
      by_cases e : f' = f
      · subst e
        intro q q1 q2
        have o2 := toks_ok hk1
        have c1 := rg_in hX hR (show k < (toks X f').length by omega)
        have c2 := rg_in hX hR hk1
        have c3 := rg_in hX hR (show t - 1 < (toks X f').length by have := hR.2.2.1; have := hR.2.2.2.1; omega)
        have c4 := rg_in hX hR hR.2.2.2.1
        have k3 : t - 1 ≠ k + 1 := fun h => by have := hR.2.2.2.2.1; rw [h, a1] at this; exact absurd this (by decide)
        have k13 : k ≠ l := fun h => by have := hR.2.2.2.2.2.1; rw [← h, hbk.2] at this; exact absurd this (by decide)
        have hiff : (t - 1 ≤ k ∧ k ≤ l) ↔ (t - 1 ≤ k + 1 ∧ k + 1 ≤ l) := by omega
        have o1 := toks_ok (show k < (toks X f').length by omega)
        have g1 := hR.2.2.2.2.2.2.1
        have g2 := hR.2.2.2.2.2.2.2.1
        have hq8 : q < 8 := by omega
        rw [c1]
        unfold inR at c1 c2 ⊢
        rw [(d8 o1.1).1, (d8 o1.1).2] at c1
        rw [(d8 o2.1).1, (d8 o2.1).2] at c2
        rw [(d8 hq8).1, (d8 hq8).2]
        by_cases hin : t - 1 ≤ k ∧ k ≤ l
        · have i1 := c1.mpr hin
          have i2 := c2.mpr (hiff.mp hin)
          exact ⟨fun _ => hin, fun _ => ⟨rfl, by omega, by omega⟩⟩
        · refine ⟨fun hq => ?_, fun h => absurd h hin⟩
          exfalso
          -- a line of the function between them: its tokens are between them
          by_cases hlt : k < t - 1
          · have := (tok_srt hX hf' (show k + 1 < t - 1 by omega) (by have := hR.2.2.1; have := hR.2.2.2.1; omega)).1
            have n2 : ¬ (t - 1 ≤ k + 1 ∧ k + 1 ≤ l) := fun h => hin (hiff.mpr h)
            have n3 : ¬ (top ≤ tl X f' (k + 1) ∧ tl X f' (k + 1) < top + n) := fun h => n2 (c2.mp ⟨rfl, h⟩)
            omega
          · have hgt : l < k := by omega
            have := (tok_srt hX hf' hgt (by omega)).1
            have n3 : ¬ (top ≤ tl X f' k ∧ tl X f' k < top + n) := fun h => hin (c1.mp ⟨rfl, h⟩)
            omega
      · intro q q1 q2
        have o2 := toks_ok hk1
        have o1 := toks_ok (show k < (toks X f').length by omega)
        unfold inR
        rw [(d8 (show q < 8 by omega)).1, (d8 o1.1).1]
        exact ⟨fun h => absurd h.1 e, fun h => absurd h.1 e⟩
    rw [e0] at hm
    obtain ⟨nx, n9⟩ := mv_nx hX h hf' hk1 hm hP
    have t3 := mv_tok hX h nx
    have d3 : (new + 1) / 200 = new / 200 ∧ (new + 1) % 200 = new % 200 + 1 := by omega
    have d4 : (200 * f' + (k + 1)) / 200 = f' ∧ (200 * f' + (k + 1)) % 200 = k + 1 := by
      have := toks_len hX hf'
      omega
    have k3 := t3.2.2.2.2.1
    rw [d3.1, d3.2, d4.1, d4.2, a1] at k3
    refine ⟨?_, k3, ?_⟩
    · rw [t1.2.2.2.2.1, ← ho.1, ← ho.2]; exact hbk.2
    · unfold wasF
      exact pif_1 ⟨t1.2.1, by omega, by rw [hb, Int.toNat_natCast]; exact a2⟩
end Ml3
