/-! TYPES, OF THE REFERENCE: a call -/
def argR (f v : Nat) : Nat → List (Nat × Int) → TR → TR
  | _, [], q => q
  | i, a :: l, q => argR f v (i + 1) l (jnR q (600 + a.1) (v + 2 + 2 * i) (1000 * (f : Int) + a.2))
/-- a call m, its token t, its args -/
noncomputable def callR (X : Nat → List Int) (f m t : Nat) (as : List (Nat × Int)) (q : TR) : TR :=
  if bnd X (200 * f + t) = -1 then q else
  if ppar X (bnd X (200 * f + t)).toNat = (as.length : Int) then argR f (bnd X (200 * f + t)).toNat 0 as (lkR q (600 + m) (bnd X (200 * f + t)).toNat)
  else ((lkR q (600 + m) (bnd X (200 * f + t)).toNat).1, (lkR q (600 + m) (bnd X (200 * f + t)).toNat).2.1, (lkR q (600 + m) (bnd X (200 * f + t)).toNat).2.2 ++ [1000 * (f : Int) + (t : Int)])
def FnI (F : MF) (X : Nat → List Int) : Prop := ∀ g, g < 3 → ∃ (a b : Nat) (I : List IT), ITs F X g a b I ∧ ∀ it ∈ I, it.2.1 = 2 → PM F it.1 it.2.2.1 it.2.2.2.1 ∧ it.1 + it.2.2.2.1 < 1600
section Ma8
variable {F F' : MF} {X : Nat → List Int} {m t f : Nat} {as : List (Nat × Int)} {q : TR}
theorem s_271 (hS : St F) (hX : ∀ r, r < 24 → Rok (X r)) (hT : TyR F q) (hm : m < 1600) (hf : f < 3) (hb : ∀ id, id < 600 → F 253 id = bnd X id) (hI : FnI F X) (h2 : ∀ a ∈ as, -1 ≤ a.2 ∧ a.2 < 1000)
    (hk : F 222 m = (t : Int)) (ht : 200 * f + t < 600) (ha : ArC F (F 224 m) as (-1)) (han : ∀ a ∈ as, a.1 < 1600) (hE : q.2.2.length + as.length + 1 < 2000) (hlr : q.1 (600 + m) = 600 + m)
    (hfx : ∀ v : Nat, bnd X (200 * f + t) = (v : Int) → fix' (Fw X (v / 200)) ((v % 200 : Nat) : Int) 0 ≠ -1 ∧ q.1 v ≠ 600 + m) :
    C_271 (f : Int) (m : Int) F (fun F' => TyR F' (callR X f m t as q) ∧ frT F F') m_no := by
  have g : g_264 F (m : Int) = ((600 + m : Nat) : Int) := by show 600 + (m : Int) = _; omega
  have e0 : 200 * (f : Int) + (t : Int) = ((200 * f + t : Nat) : Int) := by omega
  refine c_271 hS ?_
  rw [Int.toNat_natCast, hk, e0, Int.toNat_natCast, hb _ ht]
  have br := bnd_rng hX (200 * f + t) ht
  unfold callR
  refine ⟨by omega, by omega, by omega, by omega, fun c => ?_, fun c => ?_⟩
  · rw [if_pos c]
    exact ⟨hT, frT.rf⟩
  rw [if_neg c]
  obtain ⟨v, hv⟩ : ∃ v : Nat, bnd X (200 * f + t) = (v : Int) := ⟨(bnd X (200 * f + t)).toNat, by omega⟩
  rw [hv, Int.toNat_natCast, g]
  obtain ⟨hfx1, hfx2⟩ := hfx v hv
  have hv6 : v < 600 := by omega
  refine ⟨⟨by omega, trivial⟩, ?_⟩
  refine CaI.on (s_263 hS hT.1 (by omega)) ?_
  rintro r6 F1 hS1 ⟨rfl, rfl⟩
  rw [Int.toNat_natCast]
  obtain ⟨k1, k2⟩ := hT.lk (u := v) (s := 600 + m) (by omega) (by omega) hlr hfx2
  have ru := hT.1.rt (s := v) (by omega)
  refine ⟨by omega, ?_⟩
  have hS2 : St (m_up F1 256 (600 + m) (q.1 v : Int)) := hS1.arr kd_256 (by omega)
  obtain ⟨F2, hF2⟩ : ∃ F2, F2 = m_up F1 256 (600 + m) (q.1 v : Int) := ⟨_, rfl⟩
  rw [← hF2] at k1 k2 hS2 ⊢
  have fx : ∀ F3, frT F1 F3 → ∀ c, 221 ≤ c → c ≤ 229 → F3 c = F1 c := fun F3 h c h1 h3 => h.1 c (by unfold TyRP; omega)
  obtain ⟨a, b, I, hI1, hI2⟩ := hI (v / 200) (by omega)
  have hI3 : ITs F2 X (v / 200) a b I := hI1.cong (fx F2 k2) (by rw [k2.1 245 (by unfold TyRP; omega)])
  have vv : ((200 * (v / 200) + v % 200 : Nat) : Int) = (v : Int) := by omega
  have s270 := s_270 (F := F2) (t := v % 200) (f := v / 200) hS2 (by omega) (by omega) hI3 hfx1
  rw [vv] at s270
  refine CaI.on s270 ?_
  rintro r11 F8 hS8 ⟨it, i1, i2, i3, rfl, rfl, i6⟩
  rw [show 200 * (v / 200) + v % 200 = v by omega] at i6
  obtain ⟨p1, p2⟩ := hI2 it i1 i2
  have p1' : PM F8 it.1 it.2.2.1 it.2.2.2.1 := by
    unfold PM at p1 ⊢
    rw [fx F8 k2 224 (by decide) (by decide), fx F8 k2 221 (by decide) (by decide), fx F8 k2 222 (by decide) (by decide), fx F8 k2 227 (by decide) (by decide)]
    exact p1
  rw [Int.toNat_natCast]
  refine ⟨by omega, ?_⟩
  refine CaI.on (s_269p hS8 p1' p2) ?_
  rintro r15 F12 hS12 ⟨rfl, rfl⟩
  have arC : ∀ F3, frT F1 F3 → ∀ (l : List (Nat × Int)) (x : Int), ArC F1 x l (-1) → ArC F3 x l (-1) := by
    intro F3 h3 l
    induction l with
    | nil => exact fun _ h => h
    | cons a l ih =>
      rintro x ⟨x1, x2, x3⟩
      refine ⟨x1, by rw [fx F3 h3 223 (by decide) (by decide)]; exact x2, ?_⟩
      rw [fx F3 h3 227 (by decide) (by decide)]
      exact ih _ x3
  have h224 : F12 224 = F1 224 := fx F12 k2 224 (by decide) (by decide)
  rw [h224]
  refine ⟨by omega, ?_⟩
  refine CaI.on (s_269 hS12 (arC F12 k2 _ _ ha) han (by omega)) ?_
  rintro r19 F16 hS16 ⟨rfl, rfl⟩
  have row : ∀ (l : List (Nat × Int)) (i : Nat) (x : Int) (F3 : MF) (q1 : TR), St F3 → TyR F3 q1 → frT F1 F3 → ArC F1 x l (-1) → (∀ a ∈ l, a.1 < 1600 ∧ -1 ≤ a.2 ∧ a.2 < 1000) → i + l.length = it.2.2.2.1 → (0 < l.length → ppar X v = (it.2.2.2.1 : Int)) → q1.2.2.length + l.length < 2000 →
      L_271_89 (f : Int) (v : Int) (if i < it.2.2.2.1 then ((it.1 + 1 + i : Nat) : Int) else -1) x F3 (fun F' => TyR F' (argR f v i l q1) ∧ frT F1 F') m_no := by
    intro l
    induction l with
    | nil =>
      intro i x F3 q1 hS3 hT3 hf3 h _ _ _ _
      exact b_271_89 hS3 ⟨fun _ => ⟨hT3, hf3⟩, fun e => absurd h e⟩
    | cons a l ih =>
      rintro i x F3 q1 hS3 hT3 hf3 ⟨h1, h3, h4⟩ hb3 hi hp hE3
      rw [List.length_cons] at hi hE3
      obtain ⟨ha3, hb5, hb6⟩ := hb3 a (List.mem_cons_self)
      have hpt := ppar_tok hX hv6 (show 0 < it.2.2.2.1 by omega) (hp (by rw [List.length_cons]; omega)) i (by omega)
      have pm := p1.2 i (by omega)
      have e222 : F3 222 = F1 222 := fx F3 hf3 222 (by decide) (by decide)
      have e223 : F3 223 = F1 223 := fx F3 hf3 223 (by decide) (by decide)
      rw [if_pos (by omega)]
      refine b_271_89 hS3 ⟨fun e => by omega, fun _ => ⟨⟨by omega, by omega, by decide⟩, by omega, by omega, ?_⟩⟩
      rw [Int.toNat_natCast, e222, pm.2.1, show (v : Int) / 200 * 200 + ((it.2.2.1 + 2 + 2 * i : Nat) : Int) = ((v + 2 + 2 * i : Nat) : Int) by omega, h1]
      refine ⟨by omega, ?_⟩
      obtain ⟨H3, T3, E3⟩ := q1
      change E3.length + (l.length + 1) < 2000 at hE3
      refine CaV.on (s_267 hS3 hT3 ha3 (by omega) (by omega) hf (by rw [e223, h3]; exact ⟨hb5, hb6⟩)) ?_
      rintro F4 hS4 ⟨c1, c2⟩
      have hf4 := hf3.tr c2
      have e227 : F4 227 = F1 227 := fx F4 hf4 227 (by decide) (by decide)
      have le := jnR_len (q := (H3, T3, E3)) (s := 600 + a.1) (u := v + 2 + 2 * i) (e := 1000 * (f : Int) + a.2)
      change _ ≤ E3.length + 1 at le
      rw [e223, h3] at c1
      rw [e227, pm.2.2, Int.toNat_natCast]
      refine ⟨by omega, by omega, ?_⟩
      have := ih (i + 1) _ F4 _ hS4 c1 hf4 h4 (fun b hb' => hb3 b (List.mem_cons_of_mem _ hb')) (by omega) (fun _ => hp (by rw [List.length_cons]; omega)) (by omega)
      rw [show it.1 + 1 + (i + 1) = it.1 + 2 + i by omega] at this
      exact this
  have e224 : F16 224 it.1 = (if 0 < it.2.2.2.1 then ((it.1 + 1 + 0 : Nat) : Int) else -1) := by
    rw [h224, p1.1]
    by_cases e : it.2.2.2.1 = 0
    · rw [if_pos e, if_neg (by omega)]
    · rw [if_neg e, if_pos (by omega)]
  have e222 : F16 222 m = (t : Int) := by rw [fx F16 k2 222 (by decide) (by decide)]; exact hk
  refine ⟨fun c2 => ⟨by omega, ?_⟩, fun c2 => ⟨by omega, ?_⟩⟩
  · rw [if_pos (by rw [i6]; exact c2)]
    rw [← h224, e224, h224]
    exact row as 0 _ F16 _ hS16 k1 k2 ha (fun a h => ⟨han a h, h2 a h⟩) (by omega) (fun _ => i6) (by show q.2.2.length + as.length < 2000; omega)
  · rw [if_neg (by rw [i6]; exact c2), e222]
    obtain ⟨H, T, E⟩ := q
    have hE' : E.length + as.length + 1 < 2000 := hE
    refine CaV.on (s_265 hS16 k1.2.2.1 k1.2.2.2 (by show E.length < 2000; omega) (by omega) (by omega)) ?_
    rintro F3 hS3 ⟨d1, d2, d3, d4⟩
    have k3 : TyR F16 ((lkR (H, T, E) (600 + m) v).1, (lkR (H, T, E) (600 + m) v).2.1, (lkR (H, T, E) (600 + m) v).2.2) := k1
    obtain ⟨z1, z2⟩ := TyR.err k3 d1 d2 d4 d3
    exact ⟨z1, k2.tr z2⟩
end Ma8
