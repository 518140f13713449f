/-! TYPES, OF THE REFERENCE: pairs; rows counted; a function found -/
def stR (q : TR) (s : Nat) (v : Int) : TR := (q.1, (fun x => if x = s then v else q.2.1 x), q.2.2)
def lkR (q : TR) (s u : Nat) : TR := ((fun x => if q.1 x = s then q.1 u else q.1 x), q.2.1, q.2.2)
/-- a pair m of l and r; p its kind -/
def prR (q : TR) (m l r : Nat) (p el er : Int) : TR := if p = 17 then stR (jnR q (600 + r) (600 + l) er) (600 + m) 2 else stR (muR (muR q (600 + l) 1 el) (600 + r) 1 er) (600 + m) (if p = 18 then 2 else 1)
section Ma6
variable {F F' : MF} {H : Nat → Nat} {T : Nat → Int} {E : List Int} {s u m l r f : Nat} {v e p : Int} {q : TR}
theorem muR_len : (muR q s v e).2.2.length ≤ q.2.2.length + 1 := by
  unfold muR
  split
  · exact Nat.le_succ _
  · split
    · exact Nat.le_succ _
    · show (q.2.2 ++ [e]).length ≤ _
      rw [List.length_append, List.length_singleton]
      exact Nat.le_refl _
theorem jnR_len : (jnR q s u e).2.2.length ≤ q.2.2.length + 1 := by
  unfold jnR
  split
  · show (q.2.2 ++ [e]).length ≤ _
    rw [List.length_append, List.length_singleton]
    exact Nat.le_refl _
  · split
    · exact Nat.le_succ _
    · exact Nat.le_succ _
theorem TyR.st (hT : TyR F q) : TyR (m_up F 255 s v) (stR q s v) ∧ frT F (m_up F 255 s v) := by
  obtain ⟨a1, a2, a3, a4⟩ := hT
  refine ⟨⟨a1.cong (up_row (by decide)), fun x hx h => ?_, by rw [u_ne (Or.inl (by decide))]; exact a3, by rw [up_row (by decide)]; exact a4⟩, frT.rf.up (by omega)⟩
  show _ = (if x = s then v else q.2.1 x)
  by_cases e : x = s
  · rw [if_pos e, e, u_eq]
  · rw [if_neg e, u_ne (Or.inr e)]; exact a2 x hx h
theorem TyR.lk (hT : TyR F q) (hs : s < 2200) (hu : u < 2200) (h1 : q.1 s = s) (hne : q.1 u ≠ s) : TyR (m_up F 256 s (q.1 u : Int)) (lkR q s u) ∧ frT F (m_up F 256 s (q.1 u : Int)) := by
  obtain ⟨a1, a2, a3, a4⟩ := hT
  have ru := a1.rt hu
  refine ⟨⟨a1.mer hs ru.1 h1 ru.2 (fun e => hne e.symm) (fun x => ?_), fun x hx h => ?_, by rw [u_ne (Or.inl (by decide))]; exact a3, by rw [up_row (by decide)]; exact a4⟩, frT.rf.up (by omega)⟩
  · by_cases e : x = s
    · rw [if_pos e, e, u_eq]
    · rw [if_neg e, u_ne (Or.inr e)]
  · change (if q.1 x = s then q.1 u else q.1 x) = x at h
    show _ = q.2.1 x
    rw [u_ne (Or.inl (by decide))]
    refine a2 x hx ?_
    by_cases e : q.1 x = s
    · rw [if_pos e] at h
      rw [← h]
      exact ru.2
    · rw [if_neg e] at h
      exact h
theorem s_268 (hS : St F) (hT : TyR F q) (hm : m < 1600) (hl : l < 1600) (hr : r < 1600) (h4 : F 224 m = (l : Int)) (h5 : F 225 m = (r : Int)) (hE : q.2.2.length + 2 < 2000) (hf : f < 3) (h2 : ∀ k, k = l ∨ k = r → -1 ≤ F 223 k ∧ F 223 k < 1000) :
    C_268 (f : Int) (m : Int) F (fun F' => TyR F' (prR q m l r (F 222 m) (1000 * (f : Int) + F 223 l) (1000 * (f : Int) + F 223 r)) ∧ frT F F') m_no := by
  have g : ∀ (F : MF) (k : Nat), g_264 F (k : Int) = ((600 + k : Nat) : Int) := fun F k => by show 600 + (k : Int) = _; omega
  have o : ∀ (F : MF) (k : Nat), k < 1600 → o_264 F (k : Int) := fun F k h => ⟨by omega, trivial⟩
  have put : ∀ (F1 : MF) (q1 : TR) (v : Int), TyR F1 q1 → frT F F1 → TyR (m_up F1 255 (600 + m) v) (stR q1 (600 + m) v) ∧ frT F (m_up F1 255 (600 + m) v) := fun F1 q1 v h hf => ⟨h.st.1, hf.tr h.st.2⟩
  refine c_268 hS ?_
  rw [Int.toNat_natCast, h4, h5, g]
  refine ⟨by omega, fun c => ⟨by omega, by omega, o F l hl, ?_⟩, fun c => ⟨by omega, ?_⟩⟩
  · unfold prR
    rw [if_pos c]
    obtain ⟨H, T, E⟩ := q
    refine CaV.on (s_267 hS hT hr (by omega) (by have : E.length + 2 < 2000 := hE; omega) hf (h2 r (Or.inr rfl))) ?_
    rintro F1 hS1 ⟨k1, k2⟩
    refine b_268_60 hS1 ?_
    rw [g, Int.toNat_natCast]
    exact ⟨o F1 m hm, fun _ => ⟨by omega, put F1 _ 2 k1 k2⟩, fun h => absurd c h⟩
  · unfold prR
    rw [if_neg c]
    obtain ⟨H, T, E⟩ := q
    have hE' : E.length + 2 < 2000 := hE
    refine CaV.on (s_266 hS hT hl (by omega) hf (h2 l (Or.inl rfl))) ?_
    rintro F1 hS1 ⟨k1, k2⟩
    have e3 : F1 225 = F 225 := k2.1 225 (by unfold TyRP; omega)
    have e4 : F1 223 = F 223 := k2.1 223 (by unfold TyRP; omega)
    have le := muR_len (q := (H, T, E)) (s := 600 + l) (v := 1) (e := 1000 * (f : Int) + F 223 l)
    change _ ≤ E.length + 1 at le
    rw [e3, h5]
    refine ⟨by omega, ?_⟩
    revert le k1
    generalize muR (H, T, E) (600 + l) 1 (1000 * (f : Int) + F 223 l) = y
    obtain ⟨H1, T1, E1⟩ := y
    intro k1 le
    change E1.length ≤ E.length + 1 at le
    refine CaV.on (s_266 hS1 k1 hr (by omega) hf (by rw [e4]; exact h2 r (Or.inr rfl))) ?_
    rintro F2 hS2 ⟨k3, k4⟩
    rw [e4] at k3
    refine b_268_60 hS2 ?_
    rw [g, Int.toNat_natCast]
    refine ⟨o F2 m hm, fun h => absurd h c, fun _ => ⟨fun c8 => ⟨by omega, ?_⟩, fun c8 => ⟨by omega, ?_⟩⟩⟩
    · rw [if_pos c8]; exact put F2 _ 2 k3 (k2.tr k4)
    · rw [if_neg c8]; exact put F2 _ 1 k3 (k2.tr k4)
end Ma6
