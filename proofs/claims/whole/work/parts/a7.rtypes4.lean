/-! TYPES, OF THE REFERENCE: rows counted, a function found -/
section Ma7
variable {F F' : MF} {K : List Int} {top : Nat}
/-- how many nodes stand in a row -/
theorem l_269 (hS : St F) : ∀ (l : List (Nat × Int)) (x : Int) (i : Nat), ArC F x l (-1) → (∀ a ∈ l, a.1 < 1600) → i + l.length < 100000 → L_269_4 (i : Int) x F (fun r F' => r = ((i + l.length : Nat) : Int) ∧ F' = F) m_no
  | [], x, i, h, _, _ => b_269_4 hS ⟨fun _ => ⟨rfl, rfl⟩, fun e => absurd h e⟩
  | a :: l, x, i, ⟨h1, _, h3⟩, hb, hi => by
    have ha := hb a (List.mem_cons_self)
    rw [List.length_cons] at hi
    refine b_269_4 hS ⟨fun e => by omega, fun _ => ⟨by omega, by omega, ?_⟩⟩
    rw [h1, Int.toNat_natCast, show (i : Int) + 1 = ((i + 1 : Nat) : Int) by omega, List.length_cons, show i + (l.length + 1) = i + 1 + l.length by omega]
    exact l_269 hS l _ (i + 1) h3 (fun b hb' => hb b (List.mem_cons_of_mem _ hb')) (by omega)
theorem s_269 {l : List (Nat × Int)} {x : Int} (hS : St F) (h : ArC F x l (-1)) (hb : ∀ a ∈ l, a.1 < 1600) (hl : l.length < 10000) : C_269 x F (fun r F' => r = (l.length : Int) ∧ F' = F) m_no := by
  have := l_269 hS l x 0 h hb (by omega)
  rw [Nat.zero_add] at this
  exact c_269 hS this
/-- parameters counted -/
theorem s_269p {v p n : Nat} (hS : St F) (h : PM F v p n) (hv : v + n < 1600) : C_269 (F 224 v) F (fun r F' => r = (n : Int) ∧ F' = F) m_no := by
  have key : ∀ (d i : Nat) (x : Int), i + d = n → x = (if i < n then ((v + 1 + i : Nat) : Int) else -1) → L_269_4 (i : Int) x F (fun r F' => r = (n : Int) ∧ F' = F) m_no := by
    intro d
    induction d with
    | zero =>
      intro i x hi hx
      rw [if_neg (by omega)] at hx
      exact b_269_4 hS ⟨fun _ => ⟨by omega, rfl⟩, fun e => absurd hx e⟩
    | succ d ih =>
      intro i x hi hx
      rw [if_pos (by omega)] at hx
      refine b_269_4 hS ⟨fun e => by omega, fun _ => ⟨by omega, by omega, ?_⟩⟩
      rw [hx, Int.toNat_natCast, (h.2 i (by omega)).2.2, show (i : Int) + 1 = ((i + 1 : Nat) : Int) by omega]
      refine ih (i + 1) _ (by omega) ?_
      by_cases e : i + 1 < n
      · rw [if_pos e, if_pos e]; omega
      · rw [if_neg e, if_neg e]
  refine c_269 hS ?_
  refine key n 0 _ (by omega) ?_
  rw [h.1]
  by_cases e : n = 0
  · rw [if_pos e, if_neg (by omega)]
  · rw [if_neg e, if_pos (by omega)]
/-- the function with a token -/
theorem l_270 {t : Nat} {id : Int} (hS : St F) (hid : 0 ≤ id ∧ id < 600) (ht : id % 200 = (t : Int)) : ∀ (I : List IT) (x : Int) (c lo i : Nat), ItC F K top x c lo I (-1) → fix' (fnsO F c I) (t : Int) i ≠ -1 →
    L_270_13 id x F (fun r F' => ∃ it ∈ I, it.2.1 = 2 ∧ it.2.2.1 = t ∧ r = (it.1 : Int) ∧ F' = F ∧ gx ((fnsO F c I).map (fun e => e.2.1)) ((fix' (fnsO F c I) (t : Int) i).toNat - i) = (it.2.2.2.1 : Int)) m_no
  | [], x, c, lo, i, _, h => absurd rfl h
  | it :: I, x, c, lo, i, ⟨h1, hi, hP, h3⟩, h => by
    have hlt := hP.1
    refine b_270_13 hS ⟨by omega, ?_⟩
    rw [h1, Int.toNat_natCast]
    have cons2 : it.2.1 = 2 → fnsO F c (it :: I) = ((it.2.2.1 : Int), (it.2.2.2.1 : Int), (c : Int), F 228 it.2.2.2.2.1) :: fnsO F (c + it.2.2.2.2.2.length) I := fun e => by
      show (if it.2.1 = 2 then [((it.2.2.1 : Int), (it.2.2.2.1 : Int), (c : Int), F 228 it.2.2.2.2.1)] else []) ++ _ = _
      rw [if_pos e]
      rfl
    have cons1 : it.2.1 ≠ 2 → fnsO F c (it :: I) = fnsO F (c + it.2.2.2.2.2.length) I := fun e => by
      show (if it.2.1 = 2 then [((it.2.2.1 : Int), (it.2.2.2.1 : Int), (c : Int), F 228 it.2.2.2.2.1)] else []) ++ _ = _
      rw [if_neg e]
      rfl
    rcases hP.2.1 with ⟨k1, k2, k3, -⟩ | ⟨k1, k2, k3, -⟩
    · rw [k2]
      refine ⟨fun e => absurd e (by decide), fun _ => ⟨by omega, ?_⟩⟩
      rw [cons1 (by omega)] at h ⊢
      refine EvI.mono (l_270 hS hid ht I _ _ _ i h3 h) ?_ (fun _ _ _ h => h)
      rintro r F1 hS1 ⟨it', m1, m2⟩
      exact ⟨it', List.mem_cons_of_mem _ m1, m2⟩
    · rw [k2, k3]
      refine ⟨fun _ => ⟨by omega, by omega, fun e => ?_, fun e => ⟨by omega, ?_⟩⟩, fun e => absurd rfl e⟩
      · refine ⟨it, List.mem_cons_self, k1, by omega, rfl, rfl, ?_⟩
        rw [cons2 k1]
        show gx (((it.2.2.2.1 : Int)) :: _) ((if (it.2.2.1 : Int) = (t : Int) then (i : Int) else _).toNat - i) = _
        rw [if_pos (by omega), Int.toNat_natCast, Nat.sub_self]
        rfl
      · have e2 : ¬ (it.2.2.1 : Int) = (t : Int) := by omega
        rw [cons2 k1] at h ⊢
        have st : fix' (((it.2.2.1 : Int), (it.2.2.2.1 : Int), (c : Int), F 228 it.2.2.2.2.1) :: fnsO F (c + it.2.2.2.2.2.length) I) (t : Int) i = fix' (fnsO F (c + it.2.2.2.2.2.length) I) (t : Int) (i + 1) := by
          show (if (it.2.2.1 : Int) = (t : Int) then (i : Int) else _) = _
          rw [if_neg e2]
        rw [st] at h ⊢
        have hr := (fix_rng (fnsO F (c + it.2.2.2.2.2.length) I) (t : Int) (i + 1)).resolve_left h
        refine EvI.mono (l_270 hS hid ht I _ _ _ (i + 1) h3 h) ?_ (fun _ _ _ h => h)
        rintro r F1 hS1 ⟨it', m1, m2, m3, m4, m5, m6⟩
        refine ⟨it', List.mem_cons_of_mem _ m1, m2, m3, m4, m5, ?_⟩
        rw [List.map_cons, show (fix' (fnsO F (c + it.2.2.2.2.2.length) I) (t : Int) (i + 1)).toNat - i = ((fix' (fnsO F (c + it.2.2.2.2.2.length) I) (t : Int) (i + 1)).toNat - (i + 1)) + 1 by omega]
        exact m6
theorem s_270 {t f : Nat} {X : Nat → List Int} {a b : Nat} {I : List IT} (hS : St F) (hf : f < 3) (ht : t < 200) (hI : ITs F X f a b I) (hx : fix' (Fw X f) (t : Int) 0 ≠ -1) :
    C_270 ((200 * f + t : Nat) : Int) F (fun r F' => ∃ it ∈ I, it.2.1 = 2 ∧ it.2.2.1 = t ∧ r = (it.1 : Int) ∧ F' = F ∧ ppar X (200 * f + t) = (it.2.2.2.1 : Int)) m_no := by
  obtain ⟨i1, i2, -, -⟩ := hI
  refine c_270 hS ?_
  have e1 : ((200 * f + t : Nat) : Int) / 200 = (f : Int) := by omega
  rw [e1, Int.toNat_natCast]
  refine ⟨by omega, by omega, ?_⟩
  rw [← i2] at hx
  refine EvI.mono (l_270 hS (by omega) (by omega) I _ _ _ 0 i1 hx) ?_ (fun _ _ _ h => h)
  rintro r F1 hS1 ⟨it, m1, m2, m3, m4, m5, m6⟩
  refine ⟨it, m1, m2, m3, m4, m5, ?_⟩
  rw [i2] at hx m6
  unfold ppar
  rw [show (200 * f + t) / 200 = f by omega, show (200 * f + t) % 200 = t by omega, if_neg hx]
  exact m6
end Ma7
