/-! TYPES, OF THE REFERENCE: a type is asked for, things are made alike -/
/-- what typing leaves as it is -/
def frT (F F' : MF) : Prop := fr TyRP F F' ∧ ∀ j, j ≠ 78 → F' 201 j = F 201 j
theorem frT.rf {F : MF} : frT F F := ⟨fr.rf, fun _ _ => rfl⟩
theorem frT.tr {F G H : MF} (h1 : frT F G) (h2 : frT G H) : frT F H := ⟨h1.1.tr h2.1, fun j hj => (h2.2 j hj).trans (h1.2 j hj)⟩
theorem frT.up {F G : MF} {a i : Nat} {v : Int} (h : frT F G) (hp : 255 ≤ a ∧ a ≤ 257) : frT F (m_up G a i v) := ⟨h.1.up (by unfold TyRP; omega), fun j hj => (u_ne (Or.inl (by omega))).trans (h.2 j hj)⟩
section Ma5
variable {F F' : MF} {H : Nat → Nat} {T : Nat → Int} {E : List Int} {s u m f : Nat} {v e : Int} {q : TR}
theorem TyR.mk {H : Nat → Nat} {T : Nat → Int} {E : List Int} (h1 : UFr F H) (h2 : ∀ s, s < 2200 → H s = s → F 255 s = T s) (h3 : F 201 78 = (E.length : Int)) (h4 : AL (F 257) E) : TyR F (H, T, E) := ⟨h1, h2, h3, h4⟩
theorem TyR.err {F1 : MF} (hT : TyR F (H, T, E)) (h1 : F1 201 78 = ((E ++ [e]).length : Int)) (h2 : AL (F1 257) (E ++ [e])) (h3 : fr (fun c => c = 201 ∨ c = 257) F F1) (h4 : ∀ j, j ≠ 78 → F1 201 j = F 201 j) : TyR F1 (H, T, E ++ [e]) ∧ frT F F1 := by
  obtain ⟨a1, a2, a3, a4⟩ := hT
  exact ⟨TyR.mk (a1.cong (h3 256 (by decide))) (fun s hs h => by rw [h3 255 (by decide)]; exact a2 s hs h) h1 h2, h3.mo (fun c hc => by unfold TyRP; omega), h4⟩
theorem UFr.rt (h : UFr F H) (hs : s < 2200) : H s < 2200 ∧ H (H s) = H s := by
  obtain ⟨dp, hu⟩ := h
  exact ⟨(hu s hs).1, (hu s hs).2.1⟩
/-- the type v is asked for of the node m -/
theorem s_266 (hS : St F) (hT : TyR F (H, T, E)) (hm : m < 1600) (hl : E.length < 2000) (hf : f < 3) (h2 : -1 ≤ F 223 m ∧ F 223 m < 1000) :
    C_266 (f : Int) (m : Int) v F (fun F' => TyR F' (muR (H, T, E) (600 + m) v (1000 * (f : Int) + F 223 m)) ∧ frT F F') m_no := by
  have hT' := hT
  obtain ⟨a1, a2, a3, a4⟩ := hT'
  have r := a1.rt (s := 600 + m) (by omega)
  have g : g_264 F (m : Int) = ((600 + m : Nat) : Int) := by show 600 + (m : Int) = _; omega
  refine c_266 hS ?_
  rw [g]
  refine ⟨⟨by omega, trivial⟩, ?_⟩
  refine CaI.on (s_263 hS a1 (by omega)) ?_
  rintro r4 F1 hS1 ⟨rfl, rfl⟩
  change UFr F1 H at a1
  have hr : F1 255 (H (600 + m)) = T (H (600 + m)) := a2 _ r.1 r.2
  rw [Int.toNat_natCast, hr, Int.toNat_natCast]
  unfold muR
  refine ⟨by omega, fun c => ⟨by omega, ?_⟩, fun c => ⟨by omega, fun c2 => ?_, fun c2 => ⟨by omega, ?_⟩⟩⟩
  · have c' : (H, T, E).2.1 ((H, T, E).1 (600 + m)) = 0 := c
    rw [if_pos c']
    refine ⟨TyR.mk (a1.cong (up_row (by decide))) (fun s hs h => ?_) (by rw [u_ne (Or.inl (by decide))]; exact a3) (by rw [up_row (by decide)]; exact a4), frT.rf.up (by omega)⟩
    show _ = (if s = H (600 + m) then v else T s)
    by_cases e : s = H (600 + m)
    · rw [if_pos e, e, u_eq]
    · rw [if_neg e, u_ne (Or.inr e)]; exact a2 s hs h
  · have c' : ¬ (H, T, E).2.1 ((H, T, E).1 (600 + m)) = 0 := c
    have c2' : (H, T, E).2.1 ((H, T, E).1 (600 + m)) = v := c2
    rw [if_neg c', if_pos c2']
    exact ⟨hT, frT.rf⟩
  · have c' : ¬ (H, T, E).2.1 ((H, T, E).1 (600 + m)) = 0 := c
    have c2' : ¬ (H, T, E).2.1 ((H, T, E).1 (600 + m)) = v := c2
    rw [if_neg c', if_neg c2']
    refine CaV.on (s_265 hS1 a3 a4 hl (by omega) h2) ?_
    rintro F2 hS2 ⟨k1, k2, k3, k4⟩
    exact hT.err k1 k2 k4 k3
/-- the node m's thing and the thing u are made alike -/
theorem s_267 (hS : St F) (hT : TyR F (H, T, E)) (hm : m < 1600) (hu : u < 2200) (hl : E.length < 2000) (hf : f < 3) (h2 : -1 ≤ F 223 m ∧ F 223 m < 1000) :
    C_267 (f : Int) (m : Int) (u : Int) F (fun F' => TyR F' (jnR (H, T, E) (600 + m) u (1000 * (f : Int) + F 223 m)) ∧ frT F F') m_no := by
  have hT' := hT
  obtain ⟨a1, a2, a3, a4⟩ := hT'
  change UFr F H at a1
  have r := a1.rt (s := 600 + m) (by omega)
  have ru := a1.rt hu
  have g : g_264 F (m : Int) = ((600 + m : Nat) : Int) := by show 600 + (m : Int) = _; omega
  refine c_267 hS ?_
  rw [g]
  refine ⟨⟨by omega, trivial⟩, ?_⟩
  refine CaI.on (s_263 hS a1 (by omega)) ?_
  rintro r4 F1 hS1 ⟨rfl, rfl⟩
  refine CaI.on (s_263 hS1 a1 hu) ?_
  rintro r8 F2 hS2 ⟨rfl, rfl⟩
  have hr : F2 255 (H (600 + m)) = T (H (600 + m)) := a2 _ r.1 r.2
  have hru : F2 255 (H u) = T (H u) := a2 _ ru.1 ru.2
  rw [Int.toNat_natCast, Int.toNat_natCast, Int.toNat_natCast, hr, hru]
  have join : ¬ (T (H (600 + m)) ≠ 0 ∧ T (H u) ≠ 0 ∧ T (H (600 + m)) ≠ T (H u)) → L_267_68 (H (600 + m) : Int) (H u : Int) F2 (fun F' => TyR F' (jnR (H, T, E) (600 + m) u (1000 * (f : Int) + F2 223 m)) ∧ frT F2 F') m_no := by
    intro c
    have c' : ¬ ((H, T, E).2.1 ((H, T, E).1 (600 + m)) ≠ 0 ∧ (H, T, E).2.1 ((H, T, E).1 u) ≠ 0 ∧ (H, T, E).2.1 ((H, T, E).1 (600 + m)) ≠ (H, T, E).2.1 ((H, T, E).1 u)) := c
    unfold jnR
    rw [if_neg c']
    refine b_267_68 hS2 ⟨fun e => ?_, fun e => ⟨by omega, ?_⟩⟩
    · have e' : (H, T, E).1 (600 + m) = (H, T, E).1 u := by show H (600 + m) = H u; omega
      rw [if_pos e']
      exact ⟨hT, frT.rf⟩
    · have e1 : H (600 + m) ≠ H u := by omega
      have e' : ¬ (H, T, E).1 (600 + m) = (H, T, E).1 u := e1
      rw [if_neg e', Int.toNat_natCast, Int.toNat_natCast, hr, hru]
      have put : ∀ w : Int, w = (if T (H u) = 0 then T (H (600 + m)) else T (H u)) → TyR (m_up (m_up F2 255 (H u) w) 256 (H (600 + m)) (H u : Int)) ((fun x => if H x = H (600 + m) then H u else H x), (fun x => if x = H u then (if T (H u) = 0 then T (H (600 + m)) else T (H u)) else T x), E) ∧ frT F2 (m_up (m_up F2 255 (H u) w) 256 (H (600 + m)) (H u : Int)) := by
        intro w hw
        refine ⟨TyR.mk (a1.mer r.1 ru.1 r.2 ru.2 e1 (fun s => ?_)) (fun s hs h => ?_) ?_ ?_, (frT.rf.up (by omega)).up (by omega)⟩
        · by_cases e : s = H (600 + m)
          · rw [if_pos e, e, u_eq]
          · rw [if_neg e, u_ne (Or.inr e), u_ne (Or.inl (by decide))]
        · show _ = (if s = H u then (if T (H u) = 0 then T (H (600 + m)) else T (H u)) else T s)
          change (if H s = H (600 + m) then H u else H s) = s at h
          rw [u_ne (Or.inl (by decide))]
          by_cases e : s = H u
          · rw [if_pos e, e, u_eq, hw]
          · rw [if_neg e, u_ne (Or.inr e)]
            refine a2 s hs ?_
            by_cases e3 : H s = H (600 + m)
            · rw [if_pos e3] at h
              exact absurd h.symm e
            · rw [if_neg e3] at h
              exact h
        · rw [u_ne (Or.inl (by decide)), u_ne (Or.inl (by decide))]; exact a3
        · rw [up_row (by decide), up_row (by decide)]; exact a4
      refine ⟨fun c0 => ⟨by omega, by omega, by omega, ?_⟩, fun c0 => ⟨by omega, by omega, by omega, ?_⟩⟩
      · exact put _ (by rw [if_pos c0])
      · exact put _ (by rw [if_neg c0])
  refine ⟨by omega, fun c => join (fun h => h.1 c), fun c => ⟨by omega, fun c2 => join (fun h => h.2.1 c2), fun c2 => ⟨by omega, by omega, fun c3 => join (fun h => h.2.2 c3), fun c3 => ⟨by omega, ?_⟩⟩⟩⟩
  have c' : (H, T, E).2.1 ((H, T, E).1 (600 + m)) ≠ 0 ∧ (H, T, E).2.1 ((H, T, E).1 u) ≠ 0 ∧ (H, T, E).2.1 ((H, T, E).1 (600 + m)) ≠ (H, T, E).2.1 ((H, T, E).1 u) := ⟨c, c2, c3⟩
  unfold jnR
  rw [if_pos c']
  refine CaV.on (s_265 hS2 a3 a4 hl (by omega) h2) ?_
  rintro F3 hS3 ⟨k1, k2, k3, k4⟩
  exact hT.err k1 k2 k4 k3
end Ma5
