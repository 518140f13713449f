/-! TYPES, OF THE CLASS: the words of all files -/
def fnw (f : Nat) (w : Int) (fn : Nat) : Nat := if wo w = 2 then 200 * f + (wt w).toNat else fn
noncomputable def trun (X : Nat → List Int) (f : Nat) : List Int → Nat → TS → TS
  | [], _, x => x
  | w :: W, fn, x => trun X f W (fnw f w fn) (tstep X f (fnw f w fn) w x)
noncomputable def tfil (X : Nat → List Int) : Nat → TS
  | 0 => (fun s => s, [], [])
  | f + 1 => trun X f (Cw X f) 0 (tfil X f)
def SR : Bool → List Int → Prop
  | _, [] => True
  | b, w :: W => (wo w = 10 → b = true) ∧ SR (b || decide (wo w = 2)) W
section Ma1
variable {F G : MF} {X : Nat → List Int} {f g n k1 fn : Nat} {h : Nat → Nat} {E : List Int} {s t : Nat} {w : Int} {x : TS}
/-- the shape of the words -/
def Shp (X : Nat → List Int) : Prop := ∀ f, f < 3 → SK 0 (Cw X f) 0 ∧ SR false (Cw X f)
theorem sk1_bx (h : SK1 s w k1) : k1 ≤ s + bx w := by
  unfold SK1 at h
  unfold bx
  split <;> omega
theorem callT_len (k : Nat) (as : List (Nat × Int)) (ha : as.length = k) (q : TQ) : (callT X f t (k : Int) as q).2.length + 0 ≤ q.2.length + (k + 1) ∧ (0 < k → (callT X f t (k : Int) as q).2.length ≤ q.2.length + k) := by
  have h1 := argT_len as (bnd X (200 * f + t)).toNat 0 q
  unfold callT
  split
  · exact ⟨by omega, fun _ => by omega⟩
  · split
    · exact ⟨by omega, fun _ => by omega⟩
    · show (q.2 ++ [_]).length + 0 ≤ _ ∧ (_ → (q.2 ++ [_]).length ≤ _)
      rw [List.length_append, List.length_singleton]
      exact ⟨by omega, fun _ => by omega⟩
theorem ts_14 {st : List (Nat × Int)} (h1 : wo w = 14) : tstep X f fn w (h, st, E) = (h, ((if kn (ks X f) (wt w).toNat = 1 then 600 else if kn (ks X f) (wt w).toNat = 0 then slo X f (wt w).toNat else 601), ((200 * f + (wt w).toNat : Nat) : Int)) :: st, E) := by
  unfold tstep
  rw [if_pos h1]
theorem ts_15 {st : List (Nat × Int)} (h1 : wo w = 15) : tstep X f fn w (h, st, E) = ((callT X f (wt w).toNat (we w) (st.take (we w).toNat).reverse (h, E)).1, (slo X f (wt w).toNat, ((200 * f + (wt w).toNat : Nat) : Int)) :: st.drop (we w).toNat, (callT X f (wt w).toNat (we w) (st.take (we w).toNat).reverse (h, E)).2) := by
  unfold tstep
  rw [if_neg (by omega), if_pos h1]
theorem ts_nil (h1 : wo w ≠ 14) (h2 : wo w ≠ 15) : tstep X f fn w (h, [], E) = (h, [], E) := by
  unfold tstep
  rw [if_neg h1, if_neg h2]
def tsx (X : Nat → List Int) (f fn : Nat) (w : Int) (h : Nat → Nat) (a : Nat × Int) (r : List (Nat × Int)) (E : List Int) : TS → Prop := fun y =>
  (wo w = 18 ∧ y = (h, (a.1, ((200 * f + (wt w).toNat : Nat) : Int)) :: r, E)) ∨ (wo w = 16 ∧ y = ((alT (h, E) a.1 601 a.2).1, (601, ((200 * f + (wt w).toNat : Nat) : Int)) :: r, (alT (h, E) a.1 601 a.2).2)) ∨
  (wo w = 17 ∧ (r = [] ∨ ∃ b r1, r = b :: r1 ∧ (y = ((alT (h, E) a.1 b.1 a.2).1, (601, b.2) :: r1, (alT (h, E) a.1 b.1 a.2).2) ∨ y = ((alT (alT (h, E) b.1 600 b.2) a.1 600 a.2).1, ((if kn (ks X f) (wt w).toNat = 18 then 601 else 600), b.2) :: r1, (alT (alT (h, E) b.1 600 b.2) a.1 600 a.2).2)))) ∨
  ((wo w = 7 ∨ wo w = 8 ∨ wo w = 10 ∨ wo w = 11) ∧ ∃ v, y = ((alT (h, E) a.1 v a.2).1, r, (alT (h, E) a.1 v a.2).2)) ∨ (wo w = 9 ∧ y = (h, r, E)) ∨ ((wo w < 7 ∨ 11 < wo w) ∧ (wo w < 14 ∨ 18 < wo w) ∧ y = (h, a :: r, E))
theorem ts_cons {a : Nat × Int} {r : List (Nat × Int)} (h1 : wo w ≠ 14) (h2 : wo w ≠ 15) : tsx X f fn w h a r E (tstep X f fn w (h, a :: r, E)) := by
  have e : tstep X f fn w (h, a :: r, E) = (if wo w = 18 then (h, (a.1, ((200 * f + (wt w).toNat : Nat) : Int)) :: r, E) else if wo w = 16 then ((alT (h, E) a.1 601 a.2).1, (601, ((200 * f + (wt w).toNat : Nat) : Int)) :: r, (alT (h, E) a.1 601 a.2).2) else if wo w = 17 then (match r with
      | [] => (h, a :: r, E)
      | b :: r1 => if kn (ks X f) (wt w).toNat = 17 then ((alT (h, E) a.1 b.1 a.2).1, (601, b.2) :: r1, (alT (h, E) a.1 b.1 a.2).2)
        else ((alT (alT (h, E) b.1 600 b.2) a.1 600 a.2).1, ((if kn (ks X f) (wt w).toNat = 18 then 601 else 600), b.2) :: r1, (alT (alT (h, E) b.1 600 b.2) a.1 600 a.2).2))
      else if wo w = 7 ∨ wo w = 8 then ((alT (h, E) a.1 (slo X f (wt w).toNat) a.2).1, r, (alT (h, E) a.1 (slo X f (wt w).toNat) a.2).2) else if wo w = 10 then ((alT (h, E) a.1 fn a.2).1, r, (alT (h, E) a.1 fn a.2).2) else if wo w = 11 then ((alT (h, E) a.1 601 a.2).1, r, (alT (h, E) a.1 601 a.2).2) else if wo w = 9 then (h, r, E) else (h, a :: r, E)) := by
    unfold tstep
    rw [if_neg h1, if_neg h2]
    cases r <;> rfl
  rw [e]
  unfold tsx
  by_cases c1 : wo w = 18
  · rw [if_pos c1]; exact Or.inl ⟨c1, rfl⟩
  rw [if_neg c1]
  by_cases c2 : wo w = 16
  · rw [if_pos c2]; exact Or.inr (Or.inl ⟨c2, rfl⟩)
  rw [if_neg c2]
  by_cases c3 : wo w = 17
  · rw [if_pos c3]
    refine Or.inr (Or.inr (Or.inl ⟨c3, ?_⟩))
    cases r with
    | nil => exact Or.inl rfl
    | cons b r1 =>
      refine Or.inr ⟨b, r1, rfl, ?_⟩
      by_cases c4 : kn (ks X f) (wt w).toNat = 17
      · left; show (if _ then _ else _) = _; rw [if_pos c4]
      · right; show (if _ then _ else _) = _; rw [if_neg c4]
  rw [if_neg c3]
  by_cases c4 : wo w = 7 ∨ wo w = 8
  · rw [if_pos c4]; exact Or.inr (Or.inr (Or.inr (Or.inl ⟨by omega, _, rfl⟩)))
  rw [if_neg c4]
  by_cases c5 : wo w = 10
  · rw [if_pos c5]; exact Or.inr (Or.inr (Or.inr (Or.inl ⟨by omega, _, rfl⟩)))
  rw [if_neg c5]
  by_cases c6 : wo w = 11
  · rw [if_pos c6]; exact Or.inr (Or.inr (Or.inr (Or.inl ⟨by omega, _, rfl⟩)))
  rw [if_neg c6]
  by_cases c7 : wo w = 9
  · rw [if_pos c7]; exact Or.inr (Or.inr (Or.inr (Or.inr (Or.inl ⟨c7, rfl⟩))))
  rw [if_neg c7]
  exact Or.inr (Or.inr (Or.inr (Or.inr (Or.inr ⟨by omega, by omega, rfl⟩))))
def TI (k1 B : Nat) (y : TS) : Prop := y.2.1.length = k1 ∧ (∀ a ∈ y.2.1, a.1 < 602) ∧ y.2.2.length + y.2.1.length ≤ B
theorem TI.mk {h : Nat → Nat} {l : List (Nat × Int)} {E : List Int} {k B : Nat} (h1 : l.length = k) (h2 : ∀ a ∈ l, a.1 < 602) (h3 : E.length + l.length ≤ B) : TI k B (h, l, E) := ⟨h1, h2, h3⟩
theorem lo_cons {v : Nat} {u : Int} {r : List (Nat × Int)} (hv : v < 602) (hr : ∀ b ∈ r, b.1 < 602) : ∀ b ∈ (v, u) :: r, b.1 < 602 := fun b hb => by
  rcases List.mem_cons.mp hb with hb | hb
  · rw [hb]; exact hv
  · exact hr b hb
/-- a word's step: how many slots lie on the stack, and their bounds -/
theorem tst_inv {st : List (Nat × Int)} (hX : ∀ r, r < 24 → Rok (X r)) (hf : f < 3) (hw : WC (ks X f) w) (hk : SK1 st.length w k1) (hlo : ∀ a ∈ st, a.1 < 602) :
    TI k1 (E.length + st.length + 2 * bx w) (tstep X f fn w (h, st, E)) := by
  obtain ⟨o, t, e, rfl, ht, hc⟩ := hw
  have htk : kn (ks X f) t = 0 → 200 * f + t < 600 := fun h0 => by
    have h1 := kn_tok (by rw [h0]; decide : kn (ks X f) t ≠ 24)
    have := toks_len hX hf
    omega
  have ho : o = 14 ∨ o = 15 ∨ o = 16 ∨ o = 17 ∨ o = 18 ∨ o < 14 := by unfold oX at hc; omega
  have w1 := wo_mk (o := o) (t := t) (e := e) (by omega)
  have w2 := wt_mk (o := o) (t := t) (e := e) (by omega) ht
  have w3 := we_mk (o := o) (t := t) (e := e) (by omega) ht
  have hs : ∀ t, 200 * f + t < 600 → slo X f t < 602 := fun t h => by have := slo_lt (X := X) (f := f) (t := t) hX h; omega
  have bx1 : 14 ≤ o → bx (mk o t e) = 1 := fun h => by unfold bx; rw [w1, if_pos (by omega)]
  have bx0 : o < 14 → bx (mk o t e) = 0 := bx_mk
  by_cases k14 : o = 14
  · rw [ts_14 (by omega), bx1 (by omega), w2, Int.toNat_natCast]
    have hk1 : k1 = st.length + 1 := by unfold SK1 at hk; rw [w1] at hk; omega
    refine TI.mk (by rw [List.length_cons, hk1]) (lo_cons ?_ hlo) (by rw [List.length_cons]; omega)
    split
    · decide
    · split
      · next h0 => exact hs t (htk h0)
      · decide
  by_cases k15 : o = 15
  · have kt : kn (ks X f) t = 0 := by unfold oX at hc; omega
    obtain ⟨m, hm1, hm2, hm3⟩ : ∃ m : Nat, we (mk o t e) = (m : Int) ∧ m ≤ st.length ∧ k1 = st.length - m + 1 := by
      unfold SK1 at hk
      rcases hk with h | h | h | h | ⟨-, h⟩ | h | h
      · omega
      · omega
      · omega
      · omega
      · exact h
      · omega
      · omega
    have em : m = e := by omega
    subst em
    have la : ((st.take m).reverse).length = m := by rw [List.length_reverse, List.length_take]; omega
    have hc := callT_len (X := X) (f := f) (t := t) m (st.take m).reverse la (h, E)
    rw [ts_15 (by omega), bx1 (by omega), w2, w3, Int.toNat_natCast, Int.toNat_natCast]
    generalize callT X f t (m : Int) (st.take m).reverse (h, E) = q at hc
    refine TI.mk (by rw [List.length_cons, List.length_drop, hm3]) (lo_cons (hs t (htk kt)) (fun a ha => hlo a (List.mem_of_mem_drop ha))) ?_
    rw [List.length_cons, List.length_drop]
    obtain ⟨h0, h1⟩ := hc
    change _ ≤ E.length + _ at h0
    change _ → _ ≤ E.length + _ at h1
    by_cases e0 : m = 0
    · omega
    · have := h1 (by omega)
      omega
  cases st with
  | nil =>
    rw [ts_nil (by omega) (by omega)]
    have hk1 : k1 = 0 := by
      have e0 : ([] : List (Nat × Int)).length = 0 := rfl
      unfold SK1 at hk
      rw [e0, w1] at hk
      omega
    exact TI.mk hk1.symm hlo (by omega)
  | cons a r =>
    have ha := hlo a (List.mem_cons_self)
    have hr : ∀ b ∈ r, b.1 < 602 := fun b hb => hlo b (List.mem_cons_of_mem _ hb)
    have hk' := hk
    unfold SK1 at hk'
    rw [w1, List.length_cons] at hk'
    have al : ∀ (q : TQ) (s v : Nat) (u : Int), (alT q s v u).2.length ≤ q.2.length + 1 := fun q s v u => alT_len q
    have ts := ts_cons (X := X) (f := f) (fn := fn) (h := h) (a := a) (r := r) (E := E) (w := mk o t e) (by omega) (by omega)
    generalize tstep X f fn (mk o t e) (h, a :: r, E) = y at ts
    rcases ts with ⟨c, e1⟩ | ⟨c, e1⟩ | ⟨c, e1 | ⟨b, r1, rfl, e1 | e1⟩⟩ | ⟨c, v, e1⟩ | ⟨c, e1⟩ | ⟨c, c2, e1⟩
    · rw [e1, bx1 (by omega)]
      exact TI.mk (by rw [List.length_cons]; omega) (lo_cons ha hr) (by rw [List.length_cons, List.length_cons]; omega)
    · rw [e1, bx1 (by omega)]
      have l1 := al (h, E) a.1 601 a.2
      change _ ≤ E.length + 1 at l1
      exact TI.mk (by rw [List.length_cons]; omega) (lo_cons (by decide) hr) (by rw [List.length_cons, List.length_cons]; omega)
    · subst e1
      have e0 : ([] : List (Nat × Int)).length = 0 := rfl
      omega
    · rw [e1, bx1 (by omega)]
      have l1 := al (h, E) a.1 b.1 a.2
      change _ ≤ E.length + 1 at l1
      rw [List.length_cons] at hk'
      exact TI.mk (by rw [List.length_cons]; omega) (lo_cons (by decide) (fun c hc => hr c (List.mem_cons_of_mem _ hc))) (by rw [List.length_cons, List.length_cons, List.length_cons]; omega)
    · rw [e1, bx1 (by omega)]
      have l1 := al (h, E) b.1 600 b.2
      have l2 := al (alT (h, E) b.1 600 b.2) a.1 600 a.2
      change _ ≤ E.length + 1 at l1
      rw [List.length_cons] at hk'
      exact TI.mk (by rw [List.length_cons]; omega) (lo_cons (by split <;> decide) (fun c hc => hr c (List.mem_cons_of_mem _ hc))) (by rw [List.length_cons, List.length_cons, List.length_cons]; omega)
    · rw [e1, bx0 (by omega)]
      have l1 := al (h, E) a.1 v a.2
      change _ ≤ E.length + 1 at l1
      exact TI.mk (by omega) hr (by rw [List.length_cons]; omega)
    · rw [e1, bx0 (by omega)]
      exact TI.mk (by omega) hr (by rw [List.length_cons]; omega)
    · omega
end Ma1
