/-! FACTS OF ALL THAT IS TOLD -/
section Mn2
variable {X : Nat → List Int} {N : List Int} {f m fn : Nat} {h : Nat → Nat} {E : List Int} {w : Int}
theorem fn_par {e : Int × Int × Int × Int} (hX : ∀ r, r < 24 → Rok (X r)) (hf : f < 3) (he : e ∈ Fw X f) : 0 ≤ e.2.1 ∧ e.2.1 < 256 := by
  obtain ⟨p, n, i, a1, a2, a3, a4, a5, a6, a7⟩ := Fw_tok hX hf he
  have h7 := a7 n (Nat.le_refl _)
  have hl := toks_len hX hf
  by_cases c : p + 2 * n < (toks X f).length
  · omega
  · rw [kn_end (by rw [ks_len']; omega)] at h7
    exact absurd h7 (by decide)
theorem cmpl_ok (hX : ∀ r, r < 24 → Rok (X r)) (hf : f < 3) (hm : m ≤ (toks X f).length) : (cmpl X f m N).length ≤ 300 ∧ ∀ v ∈ cmpl X f m N, v < 600 := by
  have lo := lcs_ok (m := m) hX hf (by rw [ks_len']; exact hm)
  by_cases hb : bad X f m 0 = true
  · have e : cmpl X f m N = [] := if_pos hb
    rw [e]
    exact ⟨by decide, fun v hv => absurd hv (List.not_mem_nil)⟩
  · have ec : cmpl X f m N = (dd X [] (lcs X f m) ++ dd X [] (fns X f ++ fnsU X f (Uw X f))).filter (beg X N) := if_neg hb
    have hAl := dd_le (X := X) (lcs X f m) []
    have hBl : (dd X [] (fns X f ++ fnsU X f (Uw X f))).length ≤ 120 := fn_len hX (fun y hy => (List.mem_append.mp hy).elim (fns_all hf y) (fnsU_all _ y))
    have hl := List.length_filter_le (beg X N) (dd X [] (lcs X f m) ++ dd X [] (fns X f ++ fnsU X f (Uw X f)))
    rw [List.length_append] at hl
    rw [List.length_nil] at hAl
    have vi : ∀ v, VI X v → v < 600 := by
      rintro v ⟨g, k, hg, hk, rfl⟩
      have := toks_len hX hg
      omega
    rw [ec]
    refine ⟨by omega, fun v hv => ?_⟩
    have hv2 := (List.mem_filter.mp hv).1
    rcases List.mem_append.mp hv2 with c | c
    · rcases dd_mem _ _ _ c with c | c
      · exact absurd c (List.not_mem_nil)
      · exact vi v (lo.1 v c)
    · rcases dd_mem _ _ _ c with c | c
      · exact absurd c (List.not_mem_nil)
      · rcases List.mem_append.mp c with c | c
        · exact vi v (fns_vi hX hf v c)
        · have : ∀ U : List Int, v ∈ fnsU X f U → VI X v := by
            intro U
            induction U with
            | nil => exact fun h => absurd h (List.not_mem_nil)
            | cons u U ih => exact fun h => (List.mem_append.mp h).elim (fnsI_vi hX v) ih
          exact vi v (this _ c)
/-- the tokens that errors of types are told at -/
def tE (y : TS) : Prop := (∀ a ∈ y.2.1, 0 ≤ a.2 ∧ a.2 < 1000) ∧ ∀ a ∈ y.2.2, 0 ≤ a ∧ a < 1000
theorem al_e {q : TQ} {s t : Nat} {fi : Int} (hq : ∀ a ∈ q.2, 0 ≤ a ∧ a < 1000) (hf : 0 ≤ fi ∧ fi < 1000) : ∀ a ∈ (alT q s t fi).2, 0 ≤ a ∧ a < 1000 := by
  show ∀ a ∈ ale q.1 s t fi q.2, 0 ≤ a ∧ a < 1000
  unfold ale
  split
  · exact hq
  · split
    · exact hq
    · split
      · exact hq
      · intro a ha
        rcases List.mem_append.mp ha with c | c
        · exact hq a c
        · rw [List.mem_singleton.mp c]; exact hf
theorem arg_e (v : Nat) : ∀ (as : List (Nat × Int)) (i : Nat) (q : TQ), (∀ a ∈ q.2, 0 ≤ a ∧ a < 1000) → (∀ a ∈ as, 0 ≤ a.2 ∧ a.2 < 1000) → ∀ a ∈ (argT v i as q).2, 0 ≤ a ∧ a < 1000
  | [], i, q, hq, _ => hq
  | b :: as, i, q, hq, ha => arg_e v as (i + 1) _ (al_e hq (ha b List.mem_cons_self)) (fun a h => ha a (List.mem_cons_of_mem _ h))
theorem call_e {t : Nat} {k : Int} {as : List (Nat × Int)} {q : TQ} (hf : f < 3) (ht : t < 256) (hq : ∀ a ∈ q.2, 0 ≤ a ∧ a < 1000) (ha : ∀ a ∈ as, 0 ≤ a.2 ∧ a.2 < 1000) : ∀ a ∈ (callT X f t k as q).2, 0 ≤ a ∧ a < 1000 := by
  unfold callT
  split
  · exact hq
  · split
    · exact arg_e _ as 0 q hq ha
    · intro a h
      rcases List.mem_append.mp h with c | c
      · exact hq a c
      · rw [List.mem_singleton.mp c]; omega
theorem ts_17n {a : Nat × Int} (h1 : wo w = 17) : tstep X f fn w (h, [a], E) = (h, [a], E) := by
  unfold tstep
  rw [if_neg (by omega), if_neg (by omega)]
  show (if wo w = 18 then _ else if wo w = 16 then _ else if wo w = 17 then _ else _) = _
  rw [if_neg (by omega), if_neg (by omega), if_pos h1]
theorem tstep_e {st : List (Nat × Int)} (hf : f < 3) (h0 : tE (h, st, E)) : tE (tstep X f fn w (h, st, E)) := by
  have hs : ∀ a ∈ st, 0 ≤ a.2 ∧ a.2 < 1000 := h0.1
  have hE : ∀ a ∈ E, 0 ≤ a ∧ a < 1000 := h0.2
  have ht : (wt w).toNat < 256 := by unfold wt; omega
  have hc : ∀ {v : Nat} {r : List (Nat × Int)} {u : Int}, (0 ≤ u ∧ u < 1000) → (∀ a ∈ r, 0 ≤ a.2 ∧ a.2 < 1000) → ∀ a ∈ (v, u) :: r, 0 ≤ a.2 ∧ a.2 < 1000 := fun {v r u} hu hr a ha => by
    rcases List.mem_cons.mp ha with c | c
    · rw [c]; exact hu
    · exact hr a c
  have hu : (0 : Int) ≤ ((200 * f + (wt w).toNat : Nat) : Int) ∧ ((200 * f + (wt w).toNat : Nat) : Int) < 1000 := by omega
  by_cases c14 : wo w = 14
  · rw [ts_14 c14]; exact ⟨hc hu hs, hE⟩
  by_cases c15 : wo w = 15
  · rw [ts_15 c15]
    exact ⟨hc hu (fun a ha => hs a (List.mem_of_mem_drop ha)), call_e hf ht hE (fun a ha => hs a (List.mem_of_mem_take (List.mem_reverse.mp ha)))⟩
  cases st with
  | nil => rw [ts_nil c14 c15]; exact h0
  | cons a r =>
    have ha := hs a List.mem_cons_self
    have hr : ∀ b ∈ r, 0 ≤ b.2 ∧ b.2 < 1000 := fun b hb => hs b (List.mem_cons_of_mem _ hb)
    by_cases c17 : wo w = 17 ∧ r = []
    · obtain ⟨c, rfl⟩ := c17
      rw [ts_17n c]
      exact h0
    have k := ts_cons (X := X) (f := f) (fn := fn) (h := h) (E := E) (a := a) (r := r) c14 c15
    revert k
    generalize tstep X f fn w (h, a :: r, E) = y
    intro k
    rcases k with ⟨-, rfl⟩ | ⟨-, rfl⟩ | ⟨e17, k⟩ | ⟨-, v, rfl⟩ | ⟨-, rfl⟩ | ⟨-, -, rfl⟩
    · exact ⟨hc hu hr, hE⟩
    · exact ⟨hc hu hr, al_e (q := (h, E)) hE ha⟩
    · rcases k with e | ⟨b, r1, rfl, rfl | rfl⟩
      · exact absurd ⟨e17, e⟩ c17
      · exact ⟨hc (hr b List.mem_cons_self) (fun c hh => hr c (List.mem_cons_of_mem _ hh)), al_e (q := (h, E)) hE ha⟩
      · exact ⟨hc (hr b List.mem_cons_self) (fun c hh => hr c (List.mem_cons_of_mem _ hh)), al_e (al_e (q := (h, E)) hE (hr b List.mem_cons_self)) ha⟩
    · exact ⟨hr, al_e (q := (h, E)) hE ha⟩
    · exact ⟨hr, hE⟩
    · exact h0
theorem trun_e (hf : f < 3) : ∀ (W : List Int) (fn : Nat) (y : TS), tE y → tE (trun X f W fn y)
  | [], _, _, h => h
  | w :: W, fn, (h1, st, E), h => by
    rw [trun_cons]
    exact trun_e hf W _ _ (tstep_e hf h)
theorem tfil_e : ∀ f, f ≤ 3 → tE (tfil X f)
  | 0, _ => ⟨fun a h => absurd h (List.not_mem_nil), fun a h => absurd h (List.not_mem_nil)⟩
  | f + 1, hf => trun_e (by omega) (Cw X f) 0 _ (tfil_e f (by omega))
theorem tfil_ok {F : MF} (hS : St F) (hX : ∀ r, r < 24 → Rok (X r)) : (tfil X 3).2.2.length ≤ 1152 ∧ ∀ a ∈ (tfil X 3).2.2, 0 ≤ a ∧ a < 1000 := by
  have t := tfil_inv (X := X) hS hX 3 (Nat.le_refl _)
  have := t.2.2
  exact ⟨by omega, (tfil_e (X := X) 3 (Nat.le_refl _)).2⟩
end Mn2
