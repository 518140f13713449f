/-! TYPES: SLOTS AND THINGS, made alike on both sides -/
section Mb2
variable {P : Nat → Nat → Prop} {h H : Nat → Nat} {T : Nat → Int} {E Ec : List Int} {s u s' u' : Nat} {e fi : Int}
theorem rel_jn (hR : RelP P h H T) (hP : P s u) (hP' : P s' u') :
    RelP P (alh h s s') (jnR (H, T, E) u u' e).1 (jnR (H, T, E) u u' e).2.1 ∧ ((ale h s s' fi Ec = Ec ∧ (jnR (H, T, E) u u' e).2.2 = E) ∨ (ale h s s' fi Ec = Ec ++ [fi] ∧ (jnR (H, T, E) u u' e).2.2 = E ++ [e])) := by
  obtain ⟨r1, r2⟩ := hR
  obtain ⟨hs, ht⟩ := r1 s u hP
  obtain ⟨hs', ht'⟩ := r1 s' u' hP'
  have ty := tyo_c hs
  have ty' := tyo_c hs'
  have q2 := r2 s u s' u' hP hP'
  -- what is joined, over the pairs
  have join : ∀ h' : Nat → Nat, (∀ a b, P a b → h' a < 602 ∧ tyo (h' a) = (if (if H b = H u then H u' else H b) = H u' then (if T (H u') = 0 then T (H u) else T (H u')) else T (if H b = H u then H u' else H b))) → (∀ a b a' b', P a b → P a' b' → h' a < 600 → (h' a = h' a' ↔ (if H b = H u then H u' else H b) = (if H b' = H u then H u' else H b'))) →
      RelP P h' (fun x => if H x = H u then H u' else H x) (fun x => if x = H u' then (if T (H u') = 0 then T (H u) else T (H u')) else T x) := fun h' k1 k2 => ⟨k1, k2⟩
  unfold alh ale jnR
  by_cases e1 : h s = h s'
  · rw [if_pos e1, if_pos e1]
    have c0 : ¬ ((H, T, E).2.1 ((H, T, E).1 u) ≠ 0 ∧ (H, T, E).2.1 ((H, T, E).1 u') ≠ 0 ∧ (H, T, E).2.1 ((H, T, E).1 u) ≠ (H, T, E).2.1 ((H, T, E).1 u')) := by
      show ¬ (T (H u) ≠ 0 ∧ T (H u') ≠ 0 ∧ T (H u) ≠ T (H u'))
      rw [← ht, ← ht', e1]
      exact fun k => k.2.2 rfl
    rw [if_neg c0]
    by_cases e2 : H u = H u'
    · have e2' : (H, T, E).1 u = (H, T, E).1 u' := e2
      rw [if_pos e2']
      exact ⟨⟨r1, r2⟩, Or.inl ⟨rfl, rfl⟩⟩
    · have e2' : ¬ (H, T, E).1 u = (H, T, E).1 u' := e2
      rw [if_neg e2']
      have big : ¬ h s < 600 := fun k => e2 ((q2 k).mp e1)
      refine ⟨join h (fun a b hab => ?_) (fun a b a' b' hab hab' hl => ?_), Or.inl ⟨rfl, rfl⟩⟩
      · obtain ⟨k1, k2⟩ := r1 a b hab
        refine ⟨k1, ?_⟩
        have tt : T (H u') = T (H u) := by rw [← ht, ← ht', e1]
        have nz : ¬ T (H u') = 0 := by omega
        rw [if_neg nz]
        by_cases e3 : H b = H u
        · rw [if_pos e3, if_pos rfl, tt, k2, e3]
        · rw [if_neg e3]
          by_cases e4 : H b = H u'
          · rw [if_pos e4, k2, e4]
          · rw [if_neg e4, k2]
      · have k := r2 a b a' b' hab hab' hl
        have ra := r1 a b hab
        have ta := tyo_c ra.1
        have n1 : H b ≠ H u := fun e5 => by rw [e5] at ra; omega
        have n2 : H b ≠ H u' := fun e5 => by rw [e5] at ra; omega
        rw [if_neg n1]
        by_cases e3 : H b' = H u
        · rw [if_pos e3]
          rw [e3] at k
          exact ⟨fun e5 => absurd (k.mp e5) n1, fun e5 => absurd e5 n2⟩
        · rw [if_neg e3]; exact k
  · rw [if_neg e1, if_neg e1]
    by_cases e2 : h s < 600
    · have tz : T (H u) = 0 := by omega
      have c0 : ¬ ((H, T, E).2.1 ((H, T, E).1 u) ≠ 0 ∧ (H, T, E).2.1 ((H, T, E).1 u') ≠ 0 ∧ (H, T, E).2.1 ((H, T, E).1 u) ≠ (H, T, E).2.1 ((H, T, E).1 u')) := fun k => k.1 tz
      have nj : H u ≠ H u' := fun k => e1 ((q2 e2).mpr k)
      have nj' : ¬ (H, T, E).1 u = (H, T, E).1 u' := nj
      rw [if_pos e2, if_pos e2, if_neg c0, if_neg nj']
      have tn : (if T (H u') = 0 then T (H u) else T (H u')) = T (H u') := by
        by_cases k : T (H u') = 0
        · rw [if_pos k, tz, k]
        · rw [if_neg k]
      refine ⟨join _ (fun a b hab => ?_) (fun a b a' b' hab hab' hl => ?_), Or.inl ⟨rfl, rfl⟩⟩
      · rw [tn]
        have k := r2 s u a b hP hab e2
        obtain ⟨k1, k2⟩ := r1 a b hab
        by_cases e3 : H b = H u
        · rw [if_pos e3, if_pos rfl, if_pos (k.mpr e3.symm).symm]
          exact ⟨hs', ht'⟩
        · rw [if_neg e3, if_neg (fun e4 => e3 (k.mp e4.symm).symm)]
          refine ⟨k1, ?_⟩
          by_cases e4 : H b = H u'
          · rw [if_pos e4, k2, e4]
          · rw [if_neg e4, k2]
      · have k := r2 s u a b hP hab e2
        have k' := r2 s u a' b' hP hab' e2
        change (if h a = h s then h s' else h a) < 600 at hl
        show (if h a = h s then h s' else h a) = (if h a' = h s then h s' else h a') ↔ _
        by_cases e3 : h a = h s
        · rw [if_pos e3, if_pos (k.mp e3.symm).symm]
          rw [if_pos e3] at hl
          by_cases e4 : h a' = h s
          · rw [if_pos e4, if_pos (k'.mp e4.symm).symm]
            exact ⟨fun _ => rfl, fun _ => rfl⟩
          · rw [if_neg e4, if_neg (fun e5 => e4 (k'.mpr e5.symm).symm)]
            exact r2 s' u' a' b' hP' hab' hl
        · have n1 : ¬ H b = H u := fun e5 => e3 (k.mpr e5.symm).symm
          rw [if_neg e3, if_neg n1]
          rw [if_neg e3] at hl
          by_cases e4 : h a' = h s
          · rw [if_pos e4, if_pos (k'.mp e4.symm).symm]
            exact r2 a b s' u' hab hP' hl
          · rw [if_neg e4, if_neg (fun e5 => e4 (k'.mpr e5.symm).symm)]
            exact r2 a b a' b' hab hab' hl
    · rw [if_neg e2, if_neg e2]
      have nz : ¬ T (H u) = 0 := by omega
      by_cases e3 : h s' < 600
      · have tz : T (H u') = 0 := by omega
        have c0 : ¬ ((H, T, E).2.1 ((H, T, E).1 u) ≠ 0 ∧ (H, T, E).2.1 ((H, T, E).1 u') ≠ 0 ∧ (H, T, E).2.1 ((H, T, E).1 u) ≠ (H, T, E).2.1 ((H, T, E).1 u')) := fun k => k.2.1 tz
        have nj : H u ≠ H u' := fun k => by rw [k] at nz; exact nz tz
        have nj' : ¬ (H, T, E).1 u = (H, T, E).1 u' := nj
        rw [if_pos e3, if_pos e3, if_neg c0, if_neg nj']
        refine ⟨join _ (fun a b hab => ?_) (fun a b a' b' hab hab' hl => ?_), Or.inl ⟨rfl, rfl⟩⟩
        · rw [if_pos tz]
          have k := r2 s' u' a b hP' hab e3
          obtain ⟨k1, k2⟩ := r1 a b hab
          by_cases e4 : h a = h s'
          · have e5 : H b = H u' := (k.mp e4.symm).symm
            have e6 : ¬ H b = H u := fun e6 => nj (e6.symm.trans e5)
            rw [if_pos e4, if_neg e6, if_pos e5]
            exact ⟨hs, ht⟩
          · have e5 : ¬ H b = H u' := fun e5 => e4 (k.mpr e5.symm).symm
            rw [if_neg e4]
            refine ⟨k1, ?_⟩
            by_cases e6 : H b = H u
            · rw [if_pos e6, if_pos rfl, k2, e6]
            · rw [if_neg e6, if_neg e5, k2]
        · have k' := r2 s' u' a' b' hP' hab' e3
          change (if h a = h s' then h s else h a) < 600 at hl
          show (if h a = h s' then h s else h a) = (if h a' = h s' then h s else h a') ↔ _
          by_cases e4 : h a = h s'
          · rw [if_pos e4] at hl; exact absurd hl e2
          · rw [if_neg e4] at hl ⊢
            have kk := r2 a b a' b' hab hab' hl
            have kw := r2 s' u' a b hP' hab e3
            have ra := r1 a b hab
            have ta := tyo_c ra.1
            have n1 : H b ≠ H u := fun e5 => by rw [e5] at ra; omega
            have n2 : H b ≠ H u' := fun e5 => e4 (kw.mpr e5.symm).symm
            rw [if_neg n1]
            by_cases e5 : h a' = h s'
            · have e6 : H b' = H u' := (k'.mp e5.symm).symm
              have e7 : ¬ H b' = H u := fun e7 => nj (e7.symm.trans e6)
              rw [if_pos e5, if_neg e7, e6]
              exact ⟨fun k => by omega, fun k => absurd k n2⟩
            · rw [if_neg e5]
              by_cases e6 : H b' = H u
              · rw [if_pos e6]
                rw [e6] at kk
                exact ⟨fun k => absurd (kk.mp k) n1, fun k => absurd k n2⟩
              · rw [if_neg e6]; exact kk
      · have c0 : (H, T, E).2.1 ((H, T, E).1 u) ≠ 0 ∧ (H, T, E).2.1 ((H, T, E).1 u') ≠ 0 ∧ (H, T, E).2.1 ((H, T, E).1 u) ≠ (H, T, E).2.1 ((H, T, E).1 u') := by
          show T (H u) ≠ 0 ∧ T (H u') ≠ 0 ∧ T (H u) ≠ T (H u')
          omega
        rw [if_neg e3, if_neg e3, if_pos c0]
        exact ⟨⟨r1, r2⟩, Or.inr ⟨rfl, rfl⟩⟩
end Mb2
