/-! TYPES, OF THE REFERENCE: a node of the order -/
/-- a plain node: kd the class of its token t -/
noncomputable def plR (X : Nat → List Int) (f m t : Nat) (kd : Int) (q : TR) : TR := if kd = 0 then (if bnd X (200 * f + t) = -1 then q else lkR q (600 + m) (bnd X (200 * f + t)).toNat) else stR q (600 + m) (if kd = 1 then 1 else 2)
/-- a LET, or a SET: its token t, its value u -/
noncomputable def ltR (X : Nat → List Int) (f t u : Nat) (e : Int) (q : TR) : TR := if bnd X (200 * f + t) = -1 then q else jnR q (600 + u) (bnd X (200 * f + t)).toNat e
section Ma9
variable {F F' : MF} {X : Nat → List Int} {m t f u : Nat} {q : TR} {vf : Int}
theorem i_272 {R : MF → Prop} {t : Int} (hS : St F) (hm : m < 1600) (hf : f < 3) (ht : F 222 m = t) (ht2 : -1 ≤ t ∧ t < 8388608) (K : ((F 221 m = 30 → C_268 (f : Int) (m : Int) F R m_no) ∧ (F 221 m ≠ 30 → ((F 221 m = 14 → C_271 (f : Int) (m : Int) F R m_no) ∧ (F 221 m ≠ 14 → ((F 221 m = 16 → (0 ≤ (m : Int) ∧ (m : Int) < 1600) ∧ C_266 (f : Int) (F 224 m) 2 F (fun F15 => (o_264 F15 (m : Int)) ∧ (0 ≤ (g_264 F15 (m : Int)) ∧ (g_264 F15 (m : Int)) < 2200) ∧ R (m_up F15 255 (g_264 F15 (m : Int)).toNat 2)) m_no) ∧ (F 221 m ≠ 16 → ((F 221 m = 13 → (0 ≤ (200 * (f : Int)) + t ∧ (200 * (f : Int)) + t < 600) ∧ ((F 213 ((200 * (f : Int)) + t).toNat = 0 → L_272_131 (f : Int) (m : Int) vf (F 221 m) ((200 * (f : Int)) + t) F R m_no) ∧ (F 213 ((200 * (f : Int)) + t).toNat ≠ 0 → (o_264 F (m : Int)) ∧ (0 ≤ (200 * (f : Int)) + t ∧ (200 * (f : Int)) + t < 600) ∧ ((F 213 ((200 * (f : Int)) + t).toNat = 1 → (0 ≤ (g_264 F (m : Int)) ∧ (g_264 F (m : Int)) < 2200) ∧ R (m_up F 255 (g_264 F (m : Int)).toNat 1)) ∧ (F 213 ((200 * (f : Int)) + t).toNat ≠ 1 → (0 ≤ (g_264 F (m : Int)) ∧ (g_264 F (m : Int)) < 2200) ∧ R (m_up F 255 (g_264 F (m : Int)).toNat 2)))))) ∧ (F 221 m ≠ 13 → L_272_131 (f : Int) (m : Int) vf (F 221 m) ((200 * (f : Int)) + t) F R m_no))))))))) : C_272 (f : Int) (m : Int) vf F R m_no := by
  refine c_272 hS ?_
  rw [Int.toNat_natCast, ht]
  exact ⟨by omega, by omega, by omega, by omega, K⟩
/-- NOT -/
theorem s_272n (hS : St F) (hT : TyR F q) (hm : m < 1600) (hu : u < 1600) (hf : f < 3) (h1 : F 221 m = 16) (h4 : F 224 m = (u : Int)) (h22 : -1 ≤ F 222 m ∧ F 222 m < 8388608) (h2 : -1 ≤ F 223 u ∧ F 223 u < 1000) (hE : q.2.2.length < 2000) :
    C_272 (f : Int) (m : Int) vf F (fun F' => TyR F' (stR (muR q (600 + u) 2 (1000 * (f : Int) + F 223 u)) (600 + m) 2) ∧ frT F F') m_no := by
  have g : ∀ F, g_264 F (m : Int) = ((600 + m : Nat) : Int) := fun F => by show 600 + (m : Int) = _; omega
  refine i_272 hS hm hf rfl h22 ?_
  rw [h1]
  refine ⟨fun e => absurd e (by decide), fun _ => ⟨fun e => absurd e (by decide), fun _ => ⟨fun _ => ⟨by omega, ?_⟩, fun e => absurd rfl e⟩⟩⟩
  rw [h4]
  obtain ⟨H, T, E⟩ := q
  refine CaV.on (s_266 hS hT hu hE hf h2) ?_
  rintro F1 hS1 ⟨k1, k2⟩
  rw [g, Int.toNat_natCast]
  exact ⟨⟨by omega, trivial⟩, by omega, k1.st.1, k2.tr k1.st.2⟩
/-- a plain node -/
theorem s_272p {kd : Int} (hS : St F) (hX : ∀ r, r < 24 → Rok (X r)) (hT : TyR F q) (hm : m < 1600) (hf : f < 3) (h1 : F 221 m = 13) (h22 : F 222 m = (t : Int)) (ht : 200 * f + t < 600) (hk : F 213 (200 * f + t) = kd) (hb : ∀ id, id < 600 → F 253 id = bnd X id) (hlr : q.1 (600 + m) = 600 + m) (hfx : ∀ v : Nat, bnd X (200 * f + t) = (v : Int) → q.1 v ≠ 600 + m) :
    C_272 (f : Int) (m : Int) vf F (fun F' => TyR F' (plR X f m t kd q) ∧ frT F F') m_no := by
  have g : ∀ F, g_264 F (m : Int) = ((600 + m : Nat) : Int) := fun F => by show 600 + (m : Int) = _; omega
  have o : ∀ F, o_264 F (m : Int) := fun F => ⟨by omega, trivial⟩
  have e0 : 200 * (f : Int) + (t : Int) = ((200 * f + t : Nat) : Int) := by omega
  refine i_272 hS hm hf h22 (by omega) ?_
  rw [h1, e0, Int.toNat_natCast, hk, g, Int.toNat_natCast]
  unfold plR
  refine ⟨fun e => absurd e (by decide), fun _ => ⟨fun e => absurd e (by decide), fun _ => ⟨fun e => absurd e (by decide), fun _ => ⟨fun _ => ⟨by omega, fun c => ?_, fun c => ⟨o F, by omega, fun c1 => ⟨by omega, ?_⟩, fun c1 => ⟨by omega, ?_⟩⟩⟩, fun e => absurd rfl e⟩⟩⟩⟩
  · rw [if_pos c]
    refine b_272_131 hS ⟨fun _ => ⟨o F, by omega, ?_⟩, fun e => absurd rfl e⟩
    rw [Int.toNat_natCast, hb _ ht, g, Int.toNat_natCast]
    refine ⟨fun c2 => ⟨o F, by omega, ?_⟩, fun c2 => ⟨by omega, ?_⟩⟩
    · rw [if_pos c2]
      have e5 : m_up F 256 (600 + m) ((600 + m : Nat) : Int) = F := by
        have hr : F 256 (600 + m) = ((600 + m : Nat) : Int) := by
          obtain ⟨dp, hu⟩ := hT.1
          rcases (hu (600 + m) (by omega)).2.2 with h | ⟨w, -, -, -, h, -⟩
          · exact h.1
          · exact absurd hlr h
        funext c i
        by_cases e : c = 256 ∧ i = 600 + m
        · rw [e.1, e.2, u_eq, hr]
        · rw [u_ne (by omega)]
      rw [e5]
      exact ⟨hT, frT.rf⟩
    · rw [if_neg c2]
      have br := bnd_rng hX (200 * f + t) ht
      obtain ⟨v, hv⟩ : ∃ v : Nat, bnd X (200 * f + t) = (v : Int) := ⟨(bnd X (200 * f + t)).toNat, by omega⟩
      rw [hv, Int.toNat_natCast]
      refine CaI.on (s_263 hS hT.1 (by omega)) ?_
      rintro r F1 hS1 ⟨rfl, rfl⟩
      exact ⟨by omega, hT.lk (u := v) (s := 600 + m) (by omega) (by omega) hlr (hfx v hv)⟩
  · rw [if_neg c, if_pos c1]
    exact hT.st
  · rw [if_neg c, if_neg c1]
    exact hT.st
/-- LET and SET, RETURN, a condition -/
theorem s_272s (hS : St F) (hX : ∀ r, r < 24 → Rok (X r)) (hT : TyR F q) (hm : m < 1600) (hu : u < 1600) (hf : f < 3) (h1 : F 221 m = 5 ∨ F 221 m = 6) (h22 : F 222 m = (t : Int)) (ht : 200 * f + t < 600) (h4 : F 224 m = (u : Int)) (hb : ∀ id, id < 600 → F 253 id = bnd X id) (h2 : -1 ≤ F 223 u ∧ F 223 u < 1000) (hE : q.2.2.length < 2000) :
    C_272 (f : Int) (m : Int) vf F (fun F' => TyR F' (ltR X f t u (1000 * (f : Int) + F 223 u) q) ∧ frT F F') m_no := by
  have e0 : 200 * (f : Int) + (t : Int) = ((200 * f + t : Nat) : Int) := by omega
  have l247 : L_272_247 (f : Int) (m : Int) ((200 * f + t : Nat) : Int) F (fun F' => TyR F' (ltR X f t u (1000 * (f : Int) + F 223 u) q) ∧ frT F F') m_no := by
    refine b_272_247 hS ?_
    rw [Int.toNat_natCast, Int.toNat_natCast, hb _ ht, h4]
    unfold ltR
    refine ⟨by omega, fun c => ?_, fun c => ⟨by omega, by omega, ?_⟩⟩
    · rw [if_pos c]
      exact ⟨hT, frT.rf⟩
    · rw [if_neg c]
      have br := bnd_rng hX (200 * f + t) ht
      obtain ⟨v, hv⟩ : ∃ v : Nat, bnd X (200 * f + t) = (v : Int) := ⟨(bnd X (200 * f + t)).toNat, by omega⟩
      rw [hv, Int.toNat_natCast]
      obtain ⟨H, T, E⟩ := q
      exact s_267 hS hT hu (by omega) hE hf h2
  refine i_272 hS hm hf h22 (by omega) ?_
  rw [e0]
  refine ⟨fun e => by omega, fun _ => ⟨fun e => by omega, fun _ => ⟨fun e => by omega, fun _ => ⟨fun e => by omega, fun _ => ?_⟩⟩⟩⟩
  refine b_272_131 hS ⟨fun e => by omega, fun _ => ⟨fun e => by omega, fun _ => ⟨fun e => by omega, fun _ => ⟨fun _ => l247, fun _ => ⟨fun _ => l247, fun e => by omega⟩⟩⟩⟩⟩
end Ma9
