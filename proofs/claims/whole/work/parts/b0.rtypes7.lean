/-! TYPES, OF THE REFERENCE: RETURN, conditions, what has no type -/
section Mb0
variable {F F' : MF} {X : Nat → List Int} {m t f u v : Nat} {q : TR} {vf : Int}
/-- RETURN; v the function's node, t its token -/
theorem s_272r (hS : St F) (hT : TyR F q) (hm : m < 1600) (hu : u < 1600) (hv : v < 1600) (hf : f < 3) (h1 : F 221 m = 9) (h22 : -1 ≤ F 222 m ∧ F 222 m < 8388608) (hvt : F 222 v = (t : Int)) (ht : 200 * f + t < 600) (h4 : F 224 m = (u : Int)) (h2 : -1 ≤ F 223 u ∧ F 223 u < 1000) (hE : q.2.2.length < 2000) :
    C_272 (f : Int) (m : Int) (v : Int) F (fun F' => TyR F' (jnR q (600 + u) (200 * f + t) (1000 * (f : Int) + F 223 u)) ∧ frT F F') m_no := by
  have e0 : 200 * (f : Int) + (t : Int) = ((200 * f + t : Nat) : Int) := by omega
  refine i_272 hS hm hf rfl h22 ?_
  rw [h1]
  refine ⟨fun e => absurd e (by decide), fun _ => ⟨fun e => absurd e (by decide), fun _ => ⟨fun e => absurd e (by decide), fun _ => ⟨fun e => absurd e (by decide), fun _ => ?_⟩⟩⟩⟩
  refine b_272_131 hS ⟨fun e => absurd e (by decide), fun _ => ⟨fun e => absurd e (by decide), fun _ => ⟨fun _ => ?_, fun e => absurd rfl e⟩⟩⟩
  rw [Int.toNat_natCast, Int.toNat_natCast, hvt, h4, e0]
  refine ⟨by omega, by omega, by omega, by omega, ?_⟩
  obtain ⟨H, T, E⟩ := q
  exact s_267 hS hT hu (by omega) hE hf h2
/-- a condition -/
theorem s_272c (hS : St F) (hT : TyR F q) (hm : m < 1600) (hu : u < 1600) (hf : f < 3) (h1 : F 221 m = 10) (h22 : -1 ≤ F 222 m ∧ F 222 m < 8388608) (h4 : F 224 m = (u : Int)) (h2 : -1 ≤ F 223 u ∧ F 223 u < 1000) (hE : q.2.2.length < 2000) :
    C_272 (f : Int) (m : Int) vf F (fun F' => TyR F' (muR q (600 + u) 2 (1000 * (f : Int) + F 223 u)) ∧ frT F F') m_no := by
  refine i_272 hS hm hf rfl h22 ?_
  rw [h1]
  refine ⟨fun e => absurd e (by decide), fun _ => ⟨fun e => absurd e (by decide), fun _ => ⟨fun e => absurd e (by decide), fun _ => ⟨fun e => absurd e (by decide), fun _ => ?_⟩⟩⟩⟩
  refine b_272_131 hS ⟨fun e => absurd e (by decide), fun _ => ⟨fun _ => ?_, fun e => absurd rfl e⟩⟩
  rw [Int.toNat_natCast, h4]
  refine ⟨by omega, ?_⟩
  obtain ⟨H, T, E⟩ := q
  exact s_266 hS hT hu hE hf h2
/-- the rest -/
theorem s_272o (hS : St F) (hT : TyR F q) (hm : m < 1600) (hf : f < 3) (h1 : F 221 m = 3 ∨ F 221 m = 7 ∨ F 221 m = 12) (h22 : -1 ≤ F 222 m ∧ F 222 m < 8388608) :
    C_272 (f : Int) (m : Int) vf F (fun F' => TyR F' q ∧ frT F F') m_no := by
  refine i_272 hS hm hf rfl h22 ?_
  refine ⟨fun e => by omega, fun _ => ⟨fun e => by omega, fun _ => ⟨fun e => by omega, fun _ => ⟨fun e => by omega, fun _ => ?_⟩⟩⟩⟩
  exact b_272_131 hS ⟨fun e => by omega, fun _ => ⟨fun e => by omega, fun _ => ⟨fun e => by omega, fun _ => ⟨fun e => by omega, fun _ => ⟨fun e => by omega, fun _ => ⟨hT, frT.rf⟩⟩⟩⟩⟩⟩
/-- a call -/
theorem s_272k {as : List (Nat × Int)} (hS : St F) (hX : ∀ r, r < 24 → Rok (X r)) (hT : TyR F q) (hm : m < 1600) (hf : f < 3) (h1 : F 221 m = 14) (hb : ∀ id, id < 600 → F 253 id = bnd X id) (hI : FnI F X) (h2 : ∀ a ∈ as, -1 ≤ a.2 ∧ a.2 < 1000)
    (hk : F 222 m = (t : Int)) (ht : 200 * f + t < 600) (ha : ArC F (F 224 m) as (-1)) (han : ∀ a ∈ as, a.1 < 1600) (hE : q.2.2.length + as.length + 1 < 2000) (hlr : q.1 (600 + m) = 600 + m)
    (hfx : ∀ v : Nat, bnd X (200 * f + t) = (v : Int) → fix' (Fw X (v / 200)) ((v % 200 : Nat) : Int) 0 ≠ -1 ∧ q.1 v ≠ 600 + m) :
    C_272 (f : Int) (m : Int) vf F (fun F' => TyR F' (callR X f m t as q) ∧ frT F F') m_no := by
  refine i_272 hS hm hf hk (by omega) ?_
  exact ⟨fun e => by omega, fun _ => ⟨fun _ => s_271 hS hX hT hm hf hb hI h2 hk ht ha han hE hlr hfx, fun e => absurd h1 e⟩⟩
/-- a pair -/
theorem s_272b {l r : Nat} (hS : St F) (hT : TyR F q) (hm : m < 1600) (hl : l < 1600) (hr : r < 1600) (h1 : F 221 m = 30) (h22 : -1 ≤ F 222 m ∧ F 222 m < 8388608) (h4 : F 224 m = (l : Int)) (h5 : F 225 m = (r : Int)) (hE : q.2.2.length + 2 < 2000) (hf : f < 3) (h2 : ∀ k, k = l ∨ k = r → -1 ≤ F 223 k ∧ F 223 k < 1000) :
    C_272 (f : Int) (m : Int) vf F (fun F' => TyR F' (prR q m l r (F 222 m) (1000 * (f : Int) + F 223 l) (1000 * (f : Int) + F 223 r)) ∧ frT F F') m_no := by
  refine i_272 hS hm hf rfl h22 ?_
  exact ⟨fun _ => s_268 hS hT hm hl hr h4 h5 hE hf h2, fun e => absurd h1 e⟩
end Mb0
