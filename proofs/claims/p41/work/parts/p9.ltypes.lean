/-! A FUNCTION OF ONE ROW OF STATEMENTS: the law's own types, and what is looked at -/
abbrev RT2 : Type := (Nat → Int) × (Nat → Int)
def ty212 (t r : Nat → Int) (i ty : Int) : RT2 := (vup t i.toNat ty, if i = 3 ∧ r 1 = 1 then vup r 0 ty else r)
def ty213 (t r : Nat → Int) (i : Int) : RT2 := if i < 0 then (t, r) else if t i.toNat = 0 then ty212 t r i 1 else if t i.toNat = 2 then (t, vup r 2 (r 2 + 1)) else (t, r)
def ty214 (t r : Nat → Int) (ty : Int) : RT2 := if r 0 = 0 then (if r 1 = 1 then vup t 3 ty else t, vup r 0 ty) else if 0 < ty ∧ ty ≠ r 0 then (t, vup r 2 (r 2 + 1)) else (t, r)
theorem vup_self {v : Nat → Int} {i : Nat} : vup v i (v i) = v := by
  funext j
  unfold vup
  by_cases c : j = i
  · rw [if_pos c, c]
  · rw [if_neg c]
/-- rows 211 and 212 are those of y; all else is as it was -/
def R2 (F : MF) (y : RT2) (F' : MF) : Prop := F' 211 = y.1 ∧ F' 212 = y.2 ∧ ∀ c, c ≠ 211 → c ≠ 212 → F' c = F c
section Mp9
variable {F F1 : MF} {i j : Nat} {x y ty : Int} {z : Nat} {g0 g1 : Nat → Int}
theorem r2_ab : R2 F (vup (F 211) i x, vup (F 212) j y) (m_up (m_up F 211 i x) 212 j y) :=
  ⟨by rw [up_row (by decide)]; exact m_upv, by rw [m_upv, up_row (by decide)], fun c h1 h2 => by rw [up_row h2, up_row h1]⟩
theorem r2_ba : R2 F (vup (F 211) i x, vup (F 212) j y) (m_up (m_up F 212 j y) 211 i x) :=
  ⟨by rw [m_upv, up_row (by decide)], by rw [up_row (by decide)]; exact m_upv, fun c h1 h2 => by rw [up_row h1, up_row h2]⟩
theorem r2_b : R2 F (F 211, vup (F 212) j y) (m_up F 212 j y) := ⟨up_row (by decide), m_upv, fun c _ h2 => up_row h2⟩
theorem r2_0 : R2 F (F 211, F 212) F := ⟨rfl, rfl, fun _ _ _ => rfl⟩
theorem s_212 (hi : 0 ≤ x ∧ x < 60) (hS : St F) : C_212 211 212 x ty F (R2 F (ty212 (F 211) (F 212) x ty)) m_no := by
  have e1 : m_up F 211 x.toNat ty 212 = F 212 := up_row (by decide)
  refine c_212 kd_211 kd_212 hS ?_
  rw [show (1 : Int).toNat = 1 from rfl, show (0 : Int).toNat = 0 from rfl, e1]
  unfold ty212
  refine ⟨⟨by omega, by omega⟩, fun h3 => ⟨by decide, fun h1 => ⟨by decide, ?_⟩, fun h1 => ⟨by decide, by decide, ?_⟩⟩, fun h3 => ⟨by decide, by decide, ?_⟩⟩
  · rw [if_pos ⟨h3, h1⟩]
    exact r2_ab
  · rw [if_neg (fun h => h1 h.2)]
    have := r2_ab (F := F) (i := x.toNat) (x := ty) (j := 0) (y := F 212 0)
    rw [vup_self] at this
    exact this
  · rw [if_neg (fun h => h3 h.1)]
    have := r2_ab (F := F) (i := x.toNat) (x := ty) (j := 0) (y := F 212 0)
    rw [vup_self] at this
    exact this
theorem s_213 (hi : x < 60) (hr : 0 ≤ F 212 2 ∧ F 212 2 < 1000) (hS : St F) : C_213 211 212 x F (R2 F (ty213 (F 211) (F 212) x)) m_no := by
  have l20 : ∀ R : MF → Prop, (x < 0 → R F) → (¬ x < 0 → (F 211 x.toNat = 2 → R (m_up F 212 2 (F 212 2 + 1))) ∧ (¬ F 211 x.toNat = 2 → R F)) → L_213_20 211 212 x F R m_no := fun R h1 h2 => by
    refine b_213_20 kd_211 kd_212 hS ?_
    rw [show (2 : Int).toNat = 2 from rfl]
    exact ⟨h1, fun h3 => ⟨⟨by omega, by omega⟩, fun h4 => ⟨by decide, ⟨by omega, by omega⟩, by decide, (h2 h3).1 h4⟩, (h2 h3).2⟩⟩
  refine c_213 kd_211 kd_212 hS ⟨fun h0 => ?_, fun h0 => ⟨⟨by omega, by omega⟩, fun h1 => ?_, fun h1 => ?_⟩⟩
  · unfold ty213
    rw [if_pos h0]
    exact l20 _ (fun _ => r2_0) (fun h => absurd h0 h)
  · unfold ty213
    rw [if_neg h0, if_pos h1]
    exact s_212 ⟨by omega, hi⟩ hS
  · unfold ty213
    rw [if_neg h0, if_neg h1]
    refine l20 _ (fun h => absurd h h0) (fun _ => ⟨fun h2 => ?_, fun h2 => ?_⟩)
    · rw [if_pos h2]; exact r2_b
    · rw [if_neg h2]; exact r2_0
theorem s_214 (hr : 0 ≤ F 212 2 ∧ F 212 2 < 1000) (hS : St F) : C_214 211 212 ty F (R2 F (ty214 (F 211) (F 212) ty)) m_no := by
  have e1 : m_up F 212 0 ty 211 = F 211 := up_row (by decide)
  refine c_214 kd_211 kd_212 hS ?_
  rw [show (2 : Int).toNat = 2 from rfl, show (1 : Int).toNat = 1 from rfl, show (0 : Int).toNat = 0 from rfl, show (3 : Int).toNat = 3 from rfl, e1]
  unfold ty214
  refine ⟨by decide, fun h0 => ⟨by decide, by decide, fun h1 => ⟨by decide, ?_⟩, fun h1 => ⟨by decide, by decide, ?_⟩⟩, fun h0 => ⟨fun hp => ⟨by decide, fun he => ?_, fun he => ⟨by decide, ⟨by omega, by omega⟩, by decide, ?_⟩⟩, fun hp => ?_⟩⟩
  · rw [if_pos h0, if_pos h1]
    exact r2_ba
  · rw [if_pos h0, if_neg h1]
    have := r2_ba (F := F) (i := 3) (x := F 211 3) (j := 0) (y := ty)
    rw [vup_self] at this
    exact this
  · rw [if_neg h0, if_neg (fun h => h.2 he)]
    exact r2_0
  · rw [if_neg h0, if_pos ⟨hp, he⟩]
    exact r2_b
  · rw [if_neg h0, if_neg (fun h => hp h.1)]
    exact r2_0
/-- a token is bound where it is due -/
theorem s_211 (h : TZ g0 g1 z F) (ht : isTk (XZ z 8) 0 x) (hb : aBn (XZ z 8) 0 x = y) : C_211 x y F (fun r F' => r = 1 ∧ TZ g0 g1 z F' ∧ Cn F F') m_no := by
  have go : ∀ F0 : MF, TZ g0 g1 z F0 → C_163 0 x F0 (fun r F' => r = y ∧ TZ g0 g1 z F' ∧ Cn F0 F') m_no ∧ C_164 0 x F0 (fun r F' => r = y ∧ TZ g0 g1 z F' ∧ Cn F0 F') m_no := by
    intro F0 h0
    obtain ⟨a1, ⟨d, e, a2⟩, a3⟩ := id h0
    constructor
    · refine EvI.mono (f_163 a1 a2) ?_ ?_
      · rintro r F2 hS2 ⟨-, h2, h3, h4⟩
        exact ⟨h2.trans hb, h0.cn hS2 h3 h4, h4⟩
      · rintro t F2 hS2 ⟨-, h2, -, -⟩
        exact h2 ht
    · refine EvI.mono (f_164 a1 a2) ?_ ?_
      · rintro r F2 hS2 ⟨-, h2, h3, h4⟩
        exact ⟨h2.trans hb, h0.cn hS2 h3 h4, h4⟩
      · rintro t F2 hS2 ⟨-, h2, -, -⟩
        exact h2 ht
  have hx : 0 ≤ x := by
    obtain ⟨f, k, -, -, -, h5⟩ := ht
    omega
  refine c_211 h.1 (CaI.on (go F h).1 ?_)
  rintro r F2 hS2 ⟨h1, h2, h3⟩
  refine ⟨fun _ => ⟨⟨hx, by decide⟩, fun _ => ⟨rfl, h2, h3⟩, fun _ => CaI.on (go F2 h2).2 ?_⟩, fun hne => absurd h1 hne⟩
  rintro r2 F3 hS3 ⟨h4, h5, h6⟩
  exact ⟨fun _ => ⟨rfl, h5, h3.tr h6⟩, fun hne => absurd h4 hne⟩
end Mp9
