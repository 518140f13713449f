/-! ROWS THAT COME FROM OTHER ONES -/
/-- where a row comes from (-1: it is new), when n lines of f, from one on, come into o ahead of a line -/
def mvS (f top n o at' r : Nat) : Int :=
  if r / 8 = f then (if r % 8 < top then (r : Int) else if r % 8 + n < 8 then ((r + n : Nat) : Int) else -1)
  else if r / 8 = o then (if r % 8 < at' then (r : Int) else if r % 8 < at' + n then ((8 * f + top + (r % 8 - at') : Nat) : Int) else ((r - n : Nat) : Int)) else (r : Int)
/-- the same, when a line comes in ahead of a file -/
def useS (a r : Nat) : Int := if r / 8 = a then (if r % 8 = 0 then -1 else ((r - 1 : Nat) : Int)) else (r : Int)
def sh (s : Nat → Int) (Y : Nat → List Int) (r : Nat) : List Int := if s r = -1 then [] else Y (s r).toNat
def sho (s og : Nat → Int) (r : Nat) : Int := if s r = -1 then -1 else og (s r).toNat
def useW (b : Nat) : List Int := [117, 115, 101, 32, ((97 + b : Nat) : Int), 59]
def useY (a b : Nat) (Y : Nat → List Int) : Nat → List Int := rupd (sh (useS a) Y) (8 * a) (useW b)
/-- the lines that are moved -/
def inR (f top n r : Nat) : Prop := r / 8 = f ∧ top ≤ r % 8 ∧ r % 8 < top + n
/-- what holds of texts and of the rows from which rows come; P: a side of them -/
def OgI (P : Nat → Prop) (X Y : Nat → List Int) (og : Nat → Int) : Prop :=
  (∀ r, r < 24 → Rok (Y r)) ∧ (∀ r, r < 24 → og r = -1 ∨ 0 ≤ og r ∧ og r < 24) ∧ (∀ r r', r < 24 → r' < 24 → og r ≠ -1 → og r = og r' → r = r') ∧
  (∀ r, r < 24 → og r ≠ -1 → Y r = X (og r).toNat ∧ md Y (r / 8) (r % 8) = md X ((og r).toNat / 8) ((og r).toNat % 8)) ∧
  (∀ q, q < 24 → X q ≠ [] → ∃ r, r < 24 ∧ og r = (q : Int)) ∧
  (∀ q d, q + d < 24 → q / 8 = (q + d) / 8 → 0 < nt X (q / 8) (q % 8) → 0 < nt X ((q + d) / 8) ((q + d) % 8) → (∀ j, j ≤ d → (P (q + j) ↔ P q)) → ∃ r, r + d < 24 ∧ r / 8 = (r + d) / 8 ∧ ∀ j, j ≤ d → og (r + j) = ((q + j : Nat) : Int)) ∧
  ∀ r r', r < 24 → r' < 24 → og r ≠ -1 → og r' ≠ -1 → (og r).toNat / 8 = (og r').toNat / 8 → (P (og r).toNat ↔ P (og r').toNat) → r / 8 = r' / 8
section Ml2
variable {X Y : Nat → List Int} {og : Nat → Int} {f o top n at' a b m r : Nat} {P : Nat → Prop}
theorem d8 (h : m < 8) : (8 * f + m) / 8 = f ∧ (8 * f + m) % 8 = m := by omega
theorem r8 (h : r < 24) : ∃ g m, g < 3 ∧ m < 8 ∧ r = 8 * g + m := ⟨r / 8, r % 8, by omega, by omega, by omega⟩
theorem mvS_f (hm : m < 8) : mvS f top n o at' (8 * f + m) = if m < top then ((8 * f + m : Nat) : Int) else if m + n < 8 then ((8 * f + m + n : Nat) : Int) else -1 := by
  unfold mvS
  rw [(d8 hm).1, (d8 hm).2, if_pos rfl]
theorem mvS_o (hm : m < 8) (hfo : o ≠ f) : mvS f top n o at' (8 * o + m) = if m < at' then ((8 * o + m : Nat) : Int) else if m < at' + n then ((8 * f + top + (m - at') : Nat) : Int) else ((8 * o + m - n : Nat) : Int) := by
  unfold mvS
  rw [(d8 hm).1, (d8 hm).2, if_neg hfo, if_pos rfl]
theorem mvS_x {g : Nat} (hm : m < 8) (h1 : g ≠ f) (h2 : g ≠ o) : mvS f top n o at' (8 * g + m) = ((8 * g + m : Nat) : Int) := by
  unfold mvS
  rw [(d8 hm).1, if_neg h1, if_neg h2]
theorem useS_a (hm : m < 8) : useS a (8 * a + m) = if m = 0 then -1 else ((8 * a + m - 1 : Nat) : Int) := by
  unfold useS
  rw [(d8 hm).1, (d8 hm).2, if_pos rfl]
theorem useS_x {g : Nat} (hm : m < 8) (h1 : g ≠ a) : useS a (8 * g + m) = ((8 * g + m : Nat) : Int) := by
  unfold useS
  rw [(d8 hm).1, if_neg h1]
theorem sh_at {s : Nat → Int} {q : Nat} (h : s r = (q : Int)) : sh s Y r = Y q := by
  unfold sh
  rw [h, if_neg (by omega), Int.toNat_natCast]
theorem sh_no {s : Nat → Int} (h : s r = -1) : sh s Y r = [] := by
  unfold sh
  exact if_pos h
theorem sho_at {s : Nat → Int} {q : Nat} (h : s r = (q : Int)) : sho s og r = og q := by
  unfold sho
  rw [h, if_neg (by omega), Int.toNat_natCast]
theorem sho_no {s : Nat → Int} (h : s r = -1) : sho s og r = -1 := by
  unfold sho
  exact if_pos h
theorem rok_nil : Rok [] := ⟨Nat.zero_le _, fun c h => absurd h (List.not_mem_nil)⟩
theorem rok_use (hb : b < 3) : Rok (useW b) := ⟨by show 6 ≤ 24; decide, fun c h => by
  rcases List.mem_cons.mp h with h | h
  · omega
  rcases List.mem_cons.mp h with h | h
  · omega
  rcases List.mem_cons.mp h with h | h
  · omega
  rcases List.mem_cons.mp h with h | h
  · omega
  rcases List.mem_cons.mp h with h | h
  · omega
  rcases List.mem_cons.mp h with h | h
  · omega
  exact absurd h (List.not_mem_nil)⟩
/-- a file whose lines come in a row from lines of another one begins them in the same mode -/
theorem md_run {g g' m m' : Nat} : ∀ d, (∀ j, j < d → Y (8 * g + (m + j)) = X (8 * g' + (m' + j))) → md Y g m = md X g' m' → md Y g (m + d) = md X g' (m' + d)
  | 0, _, h => h
  | d + 1, hr, h => by
    have ih := md_run d (fun j hj => hr j (by omega)) h
    show modeL 24 (Y (8 * g + (m + d))) 0 (md Y g (m + d)) = modeL 24 (X (8 * g' + (m' + d))) 0 (md X g' (m' + d))
    rw [ih, hr d (Nat.lt_succ_self d)]
theorem md_use (hb : b < 3) : modeL 24 (useW b) 0 false = false := by
  have : b = 0 ∨ b = 1 ∨ b = 2 := by omega
  rcases this with rfl | rfl | rfl <;> decide
/-- the lines of a function come to another file -/
theorem og_mv (hX : ∀ r, r < 24 → Rok (X r)) (hf : f < 3) (ho : o < 3) (hfo : o ≠ f) (h1 : 1 ≤ n) (h2 : top + n ≤ 8) (h3 : at' + n ≤ 8) (m1 : md X f top = false) (m2 : md X f (top + n) = false) (m3 : md X o at' = false)
    (he : ∀ l, at' ≤ l → l < 8 → 8 ≤ l + n → X (8 * o + l) = []) (hn : ∀ l, at' ≤ l → l < 8 → nt X o l = 0) : OgI (inR f top n) X (sh (mvS f top n o at') X) (mvS f top n o at') := by
  have rows : ∀ g l, g < 3 → l < 8 → (∃ q : Nat, q < 24 ∧ mvS f top n o at' (8 * g + l) = (q : Int)) ∨ mvS f top n o at' (8 * g + l) = -1 := fun g l hg hl => by
    by_cases c1 : g = f
    · subst c1
      rw [mvS_f hl]
      by_cases c2 : l < top
      · rw [if_pos c2]; exact Or.inl ⟨_, by omega, rfl⟩
      · rw [if_neg c2]
        by_cases c3 : l + n < 8
        · rw [if_pos c3]; exact Or.inl ⟨_, by omega, rfl⟩
        · rw [if_neg c3]; exact Or.inr rfl
    · by_cases c2 : g = o
      · subst c2
        rw [mvS_o hl c1]
        by_cases c3 : l < at'
        · rw [if_pos c3]; exact Or.inl ⟨_, by omega, rfl⟩
        · rw [if_neg c3]
          by_cases c4 : l < at' + n
          · rw [if_pos c4]; exact Or.inl ⟨_, by omega, rfl⟩
          · rw [if_neg c4]; exact Or.inl ⟨_, by omega, rfl⟩
      · rw [mvS_x hl c1 c2]; exact Or.inl ⟨_, by omega, rfl⟩
  -- the mode in which each row begins
  obtain ⟨Y, hY⟩ : ∃ Y, Y = sh (mvS f top n o at') X := ⟨_, rfl⟩
  have yf1 : ∀ l, l < top → Y (8 * f + l) = X (8 * f + l) := fun l hl => by rw [hY]; exact sh_at (by rw [mvS_f (by omega), if_pos hl])
  have yf2 : ∀ l, top ≤ l → l + n < 8 → Y (8 * f + l) = X (8 * f + (l + n)) := fun l hl h => by
    rw [hY]; exact sh_at (by rw [mvS_f (by omega), if_neg (by omega), if_pos h, Nat.add_assoc])
  have yo1 : ∀ l, l < at' → Y (8 * o + l) = X (8 * o + l) := fun l hl => by rw [hY]; exact sh_at (by rw [mvS_o (by omega) hfo, if_pos hl])
  have yo2 : ∀ j, j < n → Y (8 * o + (at' + j)) = X (8 * f + (top + j)) := fun j hj => by
    rw [hY]; exact sh_at (by rw [mvS_o (by omega) hfo, if_neg (by omega), if_pos (by omega), show at' + j - at' = j by omega, Nat.add_assoc])
  have yo3 : ∀ j, at' + n + j < 8 → Y (8 * o + (at' + n + j)) = X (8 * o + (at' + j)) := fun j hj => by
    rw [hY]; exact sh_at (by rw [mvS_o hj hfo, if_neg (by omega), if_neg (by omega), show 8 * o + (at' + n + j) - n = 8 * o + (at' + j) by omega])
  have yx : ∀ g l, g ≠ f → g ≠ o → l < 8 → Y (8 * g + l) = X (8 * g + l) := fun g l c1 c2 hl => by rw [hY]; exact sh_at (mvS_x hl c1 c2)
  have mf1 : ∀ l, l ≤ top → md Y f l = md X f l := fun l hl => by
    have := md_run (X := X) (Y := Y) (g := f) (g' := f) (m := 0) (m' := 0) l (fun j hj => by rw [Nat.zero_add]; exact yf1 j (by omega)) rfl
    rw [Nat.zero_add] at this
    exact this
  have mf2 : ∀ j, top + j + n < 9 → md Y f (top + j) = md X f (top + n + j) := fun j hj =>
    md_run j (fun j' hj' => by rw [yf2 _ (by omega) (by omega), show top + j' + n = top + n + j' by omega]) (by rw [mf1 top (Nat.le_refl _), m1, m2])
  have mo1 : ∀ l, l ≤ at' → md Y o l = md X o l := fun l hl => by
    have := md_run (X := X) (Y := Y) (g := o) (g' := o) (m := 0) (m' := 0) l (fun j hj => by rw [Nat.zero_add]; exact yo1 j (by omega)) rfl
    rw [Nat.zero_add] at this
    exact this
  have mo2 : ∀ j, j ≤ n → md Y o (at' + j) = md X f (top + j) := fun j hj => md_run j (fun j' hj' => yo2 j' (by omega)) (by rw [mo1 _ (Nat.le_refl _), m1, m3])
  have mo3 : ∀ j, at' + n + j < 9 → md Y o (at' + n + j) = md X o (at' + j) := fun j hj => md_run j (fun j' hj' => yo3 j' (by omega)) (by rw [mo2 n (Nat.le_refl _), m2, m3])
  have mx : ∀ g l, g ≠ f → g ≠ o → l ≤ 8 → md Y g l = md X g l := fun g l c1 c2 hl => by
    have := md_run (X := X) (Y := Y) (g := g) (g' := g) (m := 0) (m' := 0) l (fun j hj => by rw [Nat.zero_add]; exact yx g j c1 c2 (by omega)) rfl
    rw [Nat.zero_add] at this
    exact this
  rw [← hY]
  refine ⟨fun r hr => ?_, fun r hr => ?_, fun r r' hr hr' h4 h5 => ?_, fun r hr h4 => ?_, fun q hq h4 => ?_, fun q d hq h4 h5 h6 h7 => ?_, fun r r' hr hr' h4 h5 h6 h7 => ?_⟩
  · obtain ⟨g, l, hg, hl, rfl⟩ := r8 hr
    rw [hY]
    rcases rows g l hg hl with ⟨q, h, h'⟩ | h
    · rw [sh_at h']; exact hX q h
    · rw [sh_no h]; exact rok_nil
  · obtain ⟨g, l, hg, hl, rfl⟩ := r8 hr
    rcases rows g l hg hl with ⟨q, h, h'⟩ | h
    · rw [h']; exact Or.inr ⟨by omega, by omega⟩
    · exact Or.inl h
  · unfold mvS at h4 h5
    split at h4
    · next e1 =>
      rw [if_pos e1] at h5
      split at h4
      · next e2 =>
        rw [if_pos e2] at h5
        split at h5
        · split at h5
          · omega
          · split at h5
            · omega
            · omega
        · split at h5
          · split at h5
            · omega
            · split at h5
              · omega
              · omega
          · omega
      · next e2 =>
        rw [if_neg e2] at h5
        split at h4
        · next e3 =>
          rw [if_pos e3] at h5
          split at h5
          · split at h5
            · omega
            · split at h5
              · omega
              · omega
          · split at h5
            · split at h5
              · omega
              · split at h5
                · omega
                · omega
            · omega
        · exact absurd rfl h4
    · next e1 =>
      rw [if_neg e1] at h5
      split at h4
      · next e2 =>
        rw [if_pos e2] at h5
        split at h4
        · next e3 =>
          rw [if_pos e3] at h5
          split at h5
          · split at h5
            · omega
            · split at h5
              · omega
              · omega
          · split at h5
            · split at h5
              · omega
              · split at h5
                · omega
                · omega
            · omega
        · next e3 =>
          rw [if_neg e3] at h5
          split at h4
          · next e4 =>
            rw [if_pos e4] at h5
            split at h5
            · split at h5
              · omega
              · split at h5
                · omega
                · omega
            · split at h5
              · split at h5
                · omega
                · split at h5
                  · omega
                  · omega
              · omega
          · next e4 =>
            rw [if_neg e4] at h5
            split at h5
            · split at h5
              · omega
              · split at h5
                · omega
                · omega
            · split at h5
              · split at h5
                · omega
                · split at h5
                  · omega
                  · omega
              · omega
      · next e2 =>
        rw [if_neg e2] at h5
        split at h5
        · split at h5
          · omega
          · split at h5
            · omega
            · omega
        · split at h5
          · split at h5
            · omega
            · split at h5
              · omega
              · omega
          · omega
  · obtain ⟨g, l, hg, hl, rfl⟩ := r8 hr
    rw [(d8 hl).1, (d8 hl).2]
    by_cases c1 : g = f
    · subst c1
      rw [mvS_f hl] at h4 ⊢
      by_cases c2 : l < top
      · rw [if_pos c2, Int.toNat_natCast, (d8 hl).1, (d8 hl).2]
        exact ⟨yf1 l c2, mf1 l (by omega)⟩
      · rw [if_neg c2] at h4 ⊢
        by_cases c3 : l + n < 8
        · rw [if_pos c3, Int.toNat_natCast, Nat.add_assoc, (d8 c3).1, (d8 c3).2]
          refine ⟨yf2 l (by omega) c3, ?_⟩
          have := mf2 (l - top) (by omega)
          rw [show top + (l - top) = l by omega, show top + n + (l - top) = l + n by omega] at this
          exact this
        · rw [if_neg c3] at h4
          exact absurd rfl h4
    · by_cases c2 : g = o
      · subst c2
        rw [mvS_o hl c1]
        by_cases c3 : l < at'
        · rw [if_pos c3, Int.toNat_natCast, (d8 hl).1, (d8 hl).2]
          exact ⟨yo1 l c3, mo1 l (by omega)⟩
        · rw [if_neg c3]
          by_cases c4 : l < at' + n
          · have e8 : top + (l - at') < 8 := by omega
            rw [if_pos c4, Int.toNat_natCast, Nat.add_assoc, (d8 e8).1, (d8 e8).2]
            have k1 := yo2 (l - at') (by omega)
            have k2 := mo2 (l - at') (by omega)
            rw [show at' + (l - at') = l by omega] at k1 k2
            exact ⟨k1, k2⟩
          · have k1 := yo3 (l - (at' + n)) (by omega)
            have k2 := mo3 (l - (at' + n)) (by omega)
            rw [show at' + n + (l - (at' + n)) = l by omega, show at' + (l - (at' + n)) = l - n by omega] at k1 k2
            have e8 : l - n < 8 := by omega
            rw [if_neg c4, Int.toNat_natCast, show 8 * g + l - n = 8 * g + (l - n) by omega, (d8 e8).1, (d8 e8).2]
            exact ⟨k1, k2⟩
      · rw [mvS_x hl c1 c2, Int.toNat_natCast, (d8 hl).1, (d8 hl).2]
        exact ⟨yx g l c1 c2 hl, mx g l c1 c2 (by omega)⟩
  · obtain ⟨g, l, hg, hl, rfl⟩ := r8 hq
    by_cases c1 : g = f
    · subst c1
      by_cases c2 : l < top
      · exact ⟨8 * g + l, hq, by rw [mvS_f hl, if_pos c2]⟩
      · by_cases c3 : l < top + n
        · refine ⟨8 * o + (at' + (l - top)), by omega, ?_⟩
          rw [mvS_o (by omega) hfo, if_neg (by omega), if_pos (by omega)]
          congr 1
          omega
        · refine ⟨8 * g + (l - n), by omega, ?_⟩
          rw [mvS_f (by omega), if_neg (by omega), if_pos (by omega)]
          congr 1
          omega
    · by_cases c2 : g = o
      · subst c2
        by_cases c3 : l < at'
        · exact ⟨8 * g + l, hq, by rw [mvS_o hl c1, if_pos c3]⟩
        · have : l + n < 8 := by
            by_cases c4 : 8 ≤ l + n
            · exact absurd (he l (by omega) hl c4) h4
            · omega
          refine ⟨8 * g + (l + n), by omega, ?_⟩
          rw [mvS_o this c1, if_neg (by omega), if_neg (by omega)]
          congr 1
          omega
      · exact ⟨8 * g + l, hq, mvS_x hl c1 c2⟩
  · obtain ⟨g, l, hg, hl, rfl⟩ := r8 (show q < 24 by omega)
    have e0 : (8 * g + l + d) / 8 = g ∧ (8 * g + l + d) % 8 = l + d ∧ l + d < 8 := by omega
    rw [(d8 hl).1, (d8 hl).2] at h5
    rw [e0.1, e0.2.1] at h6
    by_cases c1 : g = f
    · subst c1
      have h8 : ∀ j, j ≤ d → ((top ≤ l + j ∧ l + j < top + n) ↔ (top ≤ l ∧ l < top + n)) := fun j hj => by
        have := h7 j hj
        unfold inR at this
        rw [Nat.add_assoc, (d8 (show l + j < 8 by omega)).1, (d8 (show l + j < 8 by omega)).2, (d8 hl).1, (d8 hl).2] at this
        exact ⟨fun h => (this.mp ⟨rfl, h⟩).2, fun h => (this.mpr ⟨rfl, h⟩).2⟩
      by_cases c2 : l < top
      · have hlt : l + d < top := by
          by_cases c3 : l + d < top
          · exact c3
          · have := (h8 (top - l) (by omega)).mp ⟨by omega, by omega⟩
            omega
        refine ⟨8 * g + l, by omega, by omega, fun j hj => ?_⟩
        rw [Nat.add_assoc, mvS_f (by omega), if_pos (by omega)]
      · by_cases c3 : l < top + n
        · have hlt : l + d < top + n := ((h8 d (Nat.le_refl _)).mpr ⟨by omega, c3⟩).2
          refine ⟨8 * o + (at' + (l - top)), by omega, by omega, fun j hj => ?_⟩
          rw [Nat.add_assoc, mvS_o (by omega) hfo, if_neg (by omega), if_pos (by omega)]
          congr 1
          omega
        · refine ⟨8 * g + (l - n), by omega, by omega, fun j hj => ?_⟩
          rw [Nat.add_assoc, mvS_f (by omega), if_neg (by omega), if_pos (by omega)]
          congr 1
          omega
    · by_cases c2 : g = o
      · subst c2
        have hlt : l + d < at' := by
          by_cases c3 : l + d < at'
          · exact c3
          · have := hn (l + d) (by omega) (by omega)
            omega
        refine ⟨8 * g + l, by omega, by omega, fun j hj => ?_⟩
        rw [Nat.add_assoc, mvS_o (by omega) c1, if_pos (by omega)]
      · refine ⟨8 * g + l, by omega, by omega, fun j hj => ?_⟩
        rw [Nat.add_assoc, mvS_x (by omega) c1 c2]
  · have fl : ∀ g l, g < 3 → l < 8 → mvS f top n o at' (8 * g + l) ≠ -1 → (inR f top n (mvS f top n o at' (8 * g + l)).toNat → g = o) ∧ (¬ inR f top n (mvS f top n o at' (8 * g + l)).toNat → g = (mvS f top n o at' (8 * g + l)).toNat / 8) := fun g l hg hl hn => by
      unfold inR
      by_cases c1 : g = f
      · subst c1
        rw [mvS_f hl] at hn ⊢
        by_cases c2 : l < top
        · rw [if_pos c2, Int.toNat_natCast, (d8 hl).1, (d8 hl).2]
          exact ⟨fun h => by omega, fun _ => rfl⟩
        · rw [if_neg c2] at hn ⊢
          by_cases c3 : l + n < 8
          · rw [if_pos c3, Int.toNat_natCast, Nat.add_assoc, (d8 c3).1, (d8 c3).2]
            exact ⟨fun h => by omega, fun _ => rfl⟩
          · rw [if_neg c3] at hn
            exact absurd rfl hn
      · by_cases c2 : g = o
        · subst c2
          rw [mvS_o hl c1]
          by_cases c3 : l < at'
          · rw [if_pos c3, Int.toNat_natCast, (d8 hl).1, (d8 hl).2]
            exact ⟨fun _ => rfl, fun _ => rfl⟩
          · rw [if_neg c3]
            by_cases c4 : l < at' + n
            · have e8 : top + (l - at') < 8 := by omega
              rw [if_pos c4, Int.toNat_natCast, Nat.add_assoc, (d8 e8).1, (d8 e8).2]
              exact ⟨fun _ => rfl, fun h => absurd ⟨rfl, by omega, by omega⟩ h⟩
            · have e8 : l - n < 8 := by omega
              rw [if_neg c4, Int.toNat_natCast, show 8 * g + l - n = 8 * g + (l - n) by omega, (d8 e8).1, (d8 e8).2]
              exact ⟨fun _ => rfl, fun _ => rfl⟩
        · rw [mvS_x hl c1 c2, Int.toNat_natCast, (d8 hl).1, (d8 hl).2]
          exact ⟨fun h => absurd h.1 c1, fun _ => rfl⟩
    obtain ⟨g, l, hg, hl, rfl⟩ := r8 hr
    obtain ⟨g', l', hg', hl', rfl⟩ := r8 hr'
    rw [(d8 hl).1, (d8 hl').1]
    have a1 := fl g l hg hl h4
    have a2 := fl g' l' hg' hl' h5
    by_cases c : inR f top n (mvS f top n o at' (8 * g + l)).toNat
    · rw [a1.1 c, a2.1 (h7.mp c)]
    · rw [a1.2 c, a2.2 (fun h => c (h7.mpr h)), h6]
/-- a line with a USE comes in -/
theorem og_use (ha : a < 3) (hb : b < 3) (h : OgI P X Y og) (he : Y (8 * a + 7) = []) : OgI P X (useY a b Y) (sho (useS a) og) := by
  obtain ⟨i1, i2, i3, i4, i5, i6, i7⟩ := h
  have y0 : useY a b Y (8 * a) = useW b := upd_eq
  have y1 : ∀ l, l < 7 → useY a b Y (8 * a + (l + 1)) = Y (8 * a + l) := fun l hl => by
    unfold useY
    rw [upd_ne (by omega)]
    exact sh_at (by rw [useS_a (by omega), if_neg (by omega), show 8 * a + (l + 1) - 1 = 8 * a + l by omega])
  have yx : ∀ g l, g ≠ a → l < 8 → useY a b Y (8 * g + l) = Y (8 * g + l) := fun g l c hl => by
    unfold useY
    rw [upd_ne (by omega)]
    exact sh_at (useS_x hl c)
  have o0 : sho (useS a) og (8 * a) = -1 := sho_no (by have := useS_a (a := a) (show 0 < 8 by decide); rw [if_pos rfl] at this; exact this)
  have o1 : ∀ l, l < 7 → sho (useS a) og (8 * a + (l + 1)) = og (8 * a + l) := fun l hl => sho_at (by rw [useS_a (by omega), if_neg (by omega), show 8 * a + (l + 1) - 1 = 8 * a + l by omega])
  have ox : ∀ g l, g ≠ a → l < 8 → sho (useS a) og (8 * g + l) = og (8 * g + l) := fun g l c hl => sho_at (useS_x hl c)
  have m1 : ∀ j, j < 8 → md (useY a b Y) a (1 + j) = md Y a j := fun j hj => by
    have := md_run (X := Y) (Y := useY a b Y) (g := a) (g' := a) (m := 1) (m' := 0) j (fun j' hj' => by rw [Nat.zero_add, Nat.add_comm 1 j']; exact y1 j' (by omega)) (by
      show modeL 24 (useY a b Y (8 * a + 0)) 0 false = false
      rw [Nat.add_zero, y0]
      exact md_use hb)
    rw [Nat.zero_add] at this
    exact this
  have mx : ∀ g l, g ≠ a → l ≤ 8 → md (useY a b Y) g l = md Y g l := fun g l c hl => by
    have := md_run (X := Y) (Y := useY a b Y) (g := g) (g' := g) (m := 0) (m' := 0) l (fun j hj => by rw [Nat.zero_add]; exact yx g j c (by omega)) rfl
    rw [Nat.zero_add] at this
    exact this
  -- a row, and the one from which it comes
  have cs : ∀ r, r < 24 → r = 8 * a ∨ ∃ r0, r0 < 24 ∧ r0 ≠ 8 * a + 7 ∧ (r0 / 8 = a ∧ r = r0 + 1 ∨ r0 / 8 ≠ a ∧ r = r0) ∧ sho (useS a) og r = og r0 ∧ useY a b Y r = Y r0 ∧ md (useY a b Y) (r / 8) (r % 8) = md Y (r0 / 8) (r0 % 8) := fun r hr => by
    obtain ⟨g, l, hg, hl, rfl⟩ := r8 hr
    by_cases c1 : g = a
    · subst c1
      cases l with
      | zero => exact Or.inl rfl
      | succ l =>
        refine Or.inr ⟨8 * g + l, by omega, by omega, Or.inl ⟨by omega, by omega⟩, o1 l (by omega), y1 l (by omega), ?_⟩
        rw [(d8 hl).1, (d8 hl).2, (d8 (show l < 8 by omega)).1, (d8 (show l < 8 by omega)).2, Nat.add_comm l 1]
        exact m1 l (by omega)
    · refine Or.inr ⟨8 * g + l, hr, by omega, Or.inr ⟨by omega, rfl⟩, ox g l c1 hl, yx g l c1 hl, ?_⟩
      rw [(d8 hl).1, (d8 hl).2]
      exact mx g l c1 (by omega)
  refine ⟨fun r hr => ?_, fun r hr => ?_, fun r r' hr hr' h4 h5 => ?_, fun r hr h4 => ?_, fun q hq h4 => ?_, fun q d hq h4 h5 h6 h7 => ?_, fun r r' hr hr' h4 h5 h6 h7 => ?_⟩
  · rcases cs r hr with rfl | ⟨r0, a1, -, -, -, a2, -⟩
    · rw [y0]; exact rok_use hb
    · rw [a2]; exact i1 r0 a1
  · rcases cs r hr with rfl | ⟨r0, a1, -, -, a2, -⟩
    · exact Or.inl o0
    · rw [a2]; exact i2 r0 a1
  · rcases cs r hr with rfl | ⟨r0, a1, a5, a2, a3, -⟩
    · exact absurd o0 h4
    · rcases cs r' hr' with rfl | ⟨r0', b1, b5, b2, b3, -⟩
      · rw [o0] at h5; exact absurd h5 h4
      · rw [a3] at h4
        rw [a3, b3] at h5
        have := i3 r0 r0' a1 b1 h4 h5
        subst this
        omega
  · rcases cs r hr with rfl | ⟨r0, a1, a5, a2, a3, a4, a6⟩
    · exact absurd o0 h4
    · rw [a3] at h4 ⊢
      rw [a4, a6]
      exact i4 r0 a1 h4
  · obtain ⟨r0, r1, r2⟩ := i5 q hq h4
    obtain ⟨g, l, hg, hl, rfl⟩ := r8 r1
    by_cases c1 : g = a
    · subst c1
      have hl7 : l ≠ 7 := fun h => by
        subst h
        have := (i4 _ r1 (by omega)).1
        rw [r2, Int.toNat_natCast, he] at this
        exact h4 this.symm
      exact ⟨8 * g + (l + 1), by omega, by rw [o1 l (by omega)]; exact r2⟩
    · exact ⟨8 * g + l, r1, by rw [ox g l c1 hl]; exact r2⟩
  · obtain ⟨r0, r1, r2, r3⟩ := i6 q d hq h4 h5 h6 h7
    obtain ⟨g, l, hg, hl, rfl⟩ := r8 (show r0 < 24 by omega)
    have e0 : l + d < 8 := by omega
    by_cases c1 : g = a
    · subst c1
      have hl7 : l + d ≠ 7 := fun h => by
        have k := r3 d (Nat.le_refl _)
        have := (i4 (8 * g + l + d) (by omega) (by omega)).1
        rw [k, Int.toNat_natCast, Nat.add_assoc, h, he] at this
        have e1 : nt X ((q + d) / 8) ((q + d) % 8) = (rtl (X (8 * ((q + d) / 8) + (q + d) % 8)) (md X ((q + d) / 8) ((q + d) % 8))).length := rfl
        rw [show 8 * ((q + d) / 8) + (q + d) % 8 = q + d by omega, ← this] at e1
        rw [e1] at h6
        exact absurd h6 (Nat.lt_irrefl 0)
      refine ⟨8 * g + (l + 1), by omega, by omega, fun j hj => ?_⟩
      have := r3 j hj
      rw [show 8 * g + (l + 1) + j = 8 * g + (l + j + 1) by omega, o1 (l + j) (by omega), ← Nat.add_assoc]
      exact this
    · refine ⟨8 * g + l, r1, r2, fun j hj => ?_⟩
      have := r3 j hj
      rw [Nat.add_assoc, ox g (l + j) c1 (by omega), ← Nat.add_assoc]
      exact this
  · rcases cs r hr with rfl | ⟨r0, a1, a5, a2, a3, -⟩
    · exact absurd o0 h4
    · rcases cs r' hr' with rfl | ⟨r0', b1, b5, b2, b3, -⟩
      · exact absurd o0 h5
      · rw [a3] at h4 h6 h7
        rw [b3] at h5 h6 h7
        have := i7 r0 r0' a1 b1 h4 h5 h6 h7
        omega
end Ml2
