/-! CALLS THAT LOOK, OF THE CLASS -/
noncomputable def aTy (X : Nat → List Int) (x y : Int) : Int := if bnd X (200 * x.toNat + y.toNat) = -1 then 0 else tyo ((tfil X 3).1 (bnd X (200 * x.toNat + y.toNat)).toNat)
noncomputable def aTe (X : Nat → List Int) : Int := (tfil X 3).2.2.length
section Mn3
variable {F G : MF} {X Y S : Nat → List Int} {N : List Int} {L : List CH} {d : Bool} {e : Int} {f m k n : Nat} {x1 x2 x3 x4 : Int}
theorem s_130k (hSh : Shp X) (hS : St F) (h : KC F X S N L d e) (hD : DB F 1 X) : C_130 1 F (fun F' => TyS F' (tfil X 3) ∧ KP F F' ∧ DB F' 1 X) m_no := by
  refine CaV.on (s_130 (n := 1) hSh (by decide) hS h.hX hD.1 hD.2) ?_
  rintro F1 hS1 ⟨u1, u2⟩
  have kp : KP F F1 := u2.kp (fun c hc => by unfold TyP at hc; omega)
  exact ⟨u1, kp, kp.db hD⟩
theorem f_165 (hSh : Shp X) (hS : St F) (h : KC F X S N L d e) : C_165 x1 x2 F (CO F (isTk X x1 x2) (aTy X x1 x2) X S N L d e) (CT F (isTk X x1 x2) X S N L d e) := by
  refine c_165 hS (s_182 hS h (fun F1 f k hS1 hK hD hC hf hk e1 e2 => ?_) (fun F1 _ hK hC hn => CT.of hK hC hn))
  subst e1
  subst e2
  have lk := toks_len h.hX hf
  refine CaV.on (s_130k hSh hS1 hK hD) ?_
  rintro F2 hS2 ⟨k1, k2, k3⟩
  have eb : F2 8 (200 * f + k) = bnd X (200 * f + k) := k3.2 _ (by omega)
  rw [show ((f : Int) * 200 + (k : Int)).toNat = 200 * f + k by omega, eb]
  refine ⟨by omega, by omega, by omega, ?_⟩
  have fin : ∀ r : Int, r = aTy X (f : Int) (k : Int) → CO F (isTk X (f : Int) (k : Int)) (aTy X (f : Int) (k : Int)) X S N L d e r F2 := fun r hr => ⟨⟨f, k, hf, hk, rfl, rfl⟩, hr, hK.kp k2, hC.tr k2.cn⟩
  by_cases c : bnd X (200 * f + k) = -1
  · rw [c]
    refine c_139 hS2 ⟨fun _ => fin 0 ?_, fun hn => absurd rfl hn⟩
    simp only [aTy, Int.toNat_natCast]
    rw [if_pos c]
  · obtain ⟨v, v1, v2⟩ := (bnd_rg4 h.hX (show 200 * f + k < 600 by omega)).resolve_left c
    rw [v1]
    refine CaI.on (s_139 (h := (tfil X 3).1) (st := (tfil X 3).2.1) (E := (tfil X 3).2.2) hS2 k1 (by omega)) ?_
    rintro r F3 hS3 ⟨rfl, rfl⟩
    refine fin _ ?_
    simp only [aTy, Int.toNat_natCast]
    rw [if_neg c, v1, Int.toNat_natCast]
theorem f_166 (hSh : Shp X) (hS : St F) (h : KC F X S N L d e) : C_166 F (fun r F' => r = aTe X ∧ KC F' X S N L d e ∧ Cn F F') m_no := by
  refine c_166 hS (CaR.on (s_188 hS h) ?_)
  rintro r F1 hS1 ⟨rfl, k1, k2, k3⟩
  refine ⟨rfl, CaV.on (s_130k hSh hS1 k1 k2) ?_⟩
  rintro F2 hS2 ⟨u1, u2, u3⟩
  exact ⟨u1.2.2.1, k1.kp u2, k3.tr u2.cn⟩
end Mn3
