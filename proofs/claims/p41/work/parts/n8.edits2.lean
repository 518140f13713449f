/-! CALLS THAT CHANGE SOMETHING, OF THE CLASS: saved files, the name, plans -/
def xSv (X S : Nat → List Int) (x : Int) : Nat → List Int := cpf X S x.toNat 8
def vSv (X S : Nat → List Int) (x : Int) : Int := (dif X S x.toNat 8 : Nat)
section Mn8
variable {F F0 G : MF} {X Y S : Nat → List Int} {N : List Int} {L : List CH} {d : Bool} {e : Int} {f m k n q o : Nat} {x1 x2 x3 x4 : Int}
theorem dif_0 : ∀ k, dif X Y f k = 0 → cpf X Y f k = Y
  | 0, _ => funext fun r => if_neg (by omega)
  | k + 1, h => by
    have h1 : dif X Y f k + (if X (8 * f + k) = Y (8 * f + k) then 0 else 1) = 0 := h
    by_cases c : X (8 * f + k) = Y (8 * f + k)
    · rw [if_pos c] at h1
      have ih := dif_0 k (by omega)
      rw [← cpf_step, ih]
      funext r
      by_cases c2 : r = 8 * f + k
      · rw [c2, upd_eq, c]
      · rw [upd_ne c2]
    · rw [if_neg c] at h1
      omega
theorem f_145 (hS : St F) (h : KC F X S N L d e) : C_145 x1 F (EOk F (pif (isF3 x1) 0 1) (vSv X S x1) X (xSv X S x1) N L d e) (ET F (pif (isF3 x1) 0 1) (fun t => (t : Int) + 1) X S N L d e) := by
  refine c_145 hS (s_179 hS (fun f hf e1 => ?_) (fun hn => ⟨by rw [pif_0 hn]; rfl, h, Cn.rf⟩))
  subst e1
  refine CaI.on (s_190 (n := 2) (n1 := 80) (by decide) (by decide) (by decide) hf hS h.1 h.2.1) ?_
  rintro r F1 hS1 ⟨rfl, u1, u2⟩
  obtain ⟨a1, a2, a3, a4, ⟨b1, b2, b3, b4⟩, a6, a7, a8⟩ := h
  have hc : ∀ c, ¬ (81 ≤ c ∧ c ≤ 83) → F1 c = F c := fun c hc => u2 c (by omega)
  refine ⟨pif_1 ⟨f, hf, rfl⟩, by simp only [vSv, Int.toNat_natCast], ⟨?_, by simp only [xSv, Int.toNat_natCast]; exact u1, fun g hg k hk => by rw [hc _ (by omega)]; exact a3 g hg k hk, fun h6 => ?_, ⟨by rw [hc 0 (by omega)]; exact b1, by rw [hc 200 (by omega)]; exact b2, b3, b4⟩, by rw [hc 0 (by omega)]; exact a6, a7.cg (by rw [hc 109 (by omega)]) (fun c p q => hc c (by omega)), fun hl => by rw [hc 109 (by omega)]; exact a8 hl⟩, fun c p => hc c (by omega)⟩
  · show Rws (F1 3) (F1 4) X
    rw [hc 3 (by omega), hc 4 (by omega)]
    exact a1
  · have hd := a4 (by rw [← hc 1 (by omega)]; exact h6)
    have hf : fr (fun c => 80 ≤ c) F F1 := fun c p => hc c (by omega)
    exact ⟨hd.1.fr hf (fun c p => by omega), fun id hid => by show F1 8 id = _; rw [hc 8 (by omega)]; exact hd.2 id hid⟩
theorem f_146 (hS : St F) (h : KC F X S N L d e) : C_146 x1 F (EOk F (pif (isF3 x1) 0 1) (vSv S X x1) (xSv S X x1) S N L (if vSv S X x1 = 0 then d else true) e) (ET F (pif (isF3 x1) 0 1) (fun t => (t : Int) + 1) X S N L d e) := by
  refine c_146 hS (s_179 hS (fun f hf e1 => ?_) (fun hn => ⟨by rw [pif_0 hn]; rfl, h, Cn.rf⟩))
  subst e1
  have h0 := h
  refine CaI.on (s_190 (n := 80) (n1 := 2) (by decide) (by decide) (by decide) hf hS h.2.1 h.1) ?_
  rintro r F1 hS1 ⟨rfl, u1, u2⟩
  have hc : ∀ c, ¬ (3 ≤ c ∧ c ≤ 5) → F1 c = F c := fun c hc => u2 c (by omega)
  have ev : vSv S X (f : Int) = ((dif S X f 8 : Nat) : Int) := by simp only [vSv, Int.toNat_natCast]
  have ex : xSv S X (f : Int) = cpf S X f 8 := by simp only [xSv, Int.toNat_natCast]
  obtain ⟨a1, a2, a3, a4, ⟨b1, b2, b3, b4⟩, a6, a7, a8⟩ := h
  rw [ev, ex]
  refine ⟨fun hp => ?_, fun hp => ?_⟩
  · refine c_34 hS1 ?_
    obtain ⟨F2, eF2⟩ : ∃ F2, F2 = m_up F1 109 8 1 := ⟨_, rfl⟩
    rw [← eF2]
    have hS2 : St F2 := by rw [eF2]; exact hS1.fld kd_109 rk_3_8
    have hk2 : ∀ c, c ≠ 109 → F2 c = F1 c := fun c hc => by rw [eF2]; exact up_row hc
    have k8 : F2 109 8 = 1 := by rw [eF2, u_eq]
    have k9 : ∀ j, j ≠ 8 → F2 109 j = F1 109 j := fun j hj => by rw [eF2, u_ne (Or.inr hj)]
    have hL2 : LinC F2 (1 + 1) (cpf S X f 8) := by
      show Rws (F2 3) (F2 4) _
      rw [hk2 3 (by decide), hk2 4 (by decide)]
      exact u1
    refine CaV.on (s_11 (n := 1) (by decide) hS2 hL2) ?_
    rintro F3 hS3 ⟨v1, v2, v3, v4⟩
    have h3 : ∀ c, c ≠ 1 → ¬ (8 ≤ c ∧ c ≤ 79) → F3 c = F2 c := fun c p q => v3 c (by omega)
    refine ⟨pif_1 ⟨f, hf, rfl⟩, rfl, ⟨v1.1.1, ?_, fun g hg i hi => (v1.1.2 g hg).1.2.2.1 i hi, fun _ => v1, ⟨by rw [h3 0 (by decide) (by omega), hk2 0 (by decide), hc 0 (by omega)]; exact b1, by rw [h3 200 (by decide) (by omega), hk2 200 (by decide), hc 200 (by omega)]; exact b2, b3, b4⟩, by rw [h3 0 (by decide) (by omega), hk2 0 (by decide), hc 0 (by omega)]; exact a6, a7.cg (by rw [h3 109 (by decide) (by omega), k9 7 (by decide), hc 109 (by omega)]) (fun c p q => by rw [h3 c (by omega) (by omega), hk2 c (by omega), hc c (by omega)]), fun hl => ?_⟩, fun c p => by rw [h3 c (by omega) (by omega), hk2 c (by omega), hc c (by omega)]⟩
    · show Rws (F3 81) (F3 82) S
      rw [h3 81 (by decide) (by omega), h3 82 (by decide) (by omega), hk2 81 (by decide), hk2 82 (by decide), hc 81 (by omega), hc 82 (by omega)]
      exact a2
    · rw [if_neg (by omega), h3 109 (by decide) (by omega), k8]
      exact ⟨fun _ => rfl, fun _ => by decide⟩
  · have hz : dif S X f 8 = 0 := by omega
    have e0 := dif_0 8 hz
    have kp : KP F F1 → True := fun _ => trivial
    rw [e0] at u1 ⊢
    rw [if_pos (by omega)]
    refine ⟨pif_1 ⟨f, hf, rfl⟩, rfl, ⟨u1, ?_, fun g hg k hk => by rw [hc _ (by omega)]; exact a3 g hg k hk, fun h6 => ?_, ⟨by rw [hc 0 (by omega)]; exact b1, by rw [hc 200 (by omega)]; exact b2, b3, b4⟩, by rw [hc 0 (by omega)]; exact a6, a7.cg (by rw [hc 109 (by omega)]) (fun c p q => hc c (by omega)), fun hl => by rw [hc 109 (by omega)]; exact a8 hl⟩, fun c p => hc c (by omega)⟩
    · show Rws (F1 81) (F1 82) S
      rw [hc 81 (by omega), hc 82 (by omega)]
      exact a2
    · have hd := a4 (by rw [← hc 1 (by omega)]; exact h6)
      refine ⟨⟨u1, fun g hg => ?_⟩, fun id hid => by show F1 8 id = _; rw [hc 8 (by omega)]; exact hd.2 id hid⟩
      have hfr : fr (fun c => 3 ≤ c ∧ c ≤ 5) F F1 := fun c p => hc c p
      exact ⟨(hd.1.2 g hg).1.fr hfr (fun c p q r => by omega), (hd.1.2 g hg).2.fr hfr (fun c p q r => by omega)⟩
end Mn8
