/-! READING, OF THE REFERENCE: goesOn, which way -/
section M88
variable {F F' : MF} {K : List Int} {n0 N a : Nat} {C0 C : List Int} {l : Lv} {r : List Lv}
theorem s_232 {R : Int → MF → Prop} (hS : St F) (hQ : SQ F K) (h : EHs F K n0 C0 (l :: r) a N C) (ha : a ≤ K.length) (hK : K.length ≤ 195) (hr : r.length < 210)
    (hP : 1 < rk (kn K a) ∨ rk (kn K a) = 1 ∧ cps l = -1 → L_232_38 (kn K a) F R m_no) (hN : ¬ (1 < rk (kn K a) ∨ rk (kn K a) = 1 ∧ cps l = -1) → L_232_112 (kn K a) F R m_no) : C_232 F R m_no := by
  have h3 : F 201 54 = (r.length : Int) := h.2.1
  have h26 : F 201 26 = (a : Int) := h.2.2.2.1
  obtain ⟨s1, q1, lo1, W1, h1, -⟩ := h.1
  have h242 : F 242 r.length = (if cps l = -1 then 0 else 1) := h1.1
  refine c_232 hS ?_
  rw [h26, Int.toNat_natCast, hQ a (by omega), g_223_rk, h3, Int.toNat_natCast, h242]
  refine ⟨by omega, fun e => hP (Or.inl e), fun e => ⟨fun e1 => ⟨by omega, fun e2 => hP (Or.inr ⟨e1, ?_⟩), fun e2 => hN (fun x => ?_)⟩, fun e1 => hN (fun x => ?_)⟩⟩
  · exact Classical.byContradiction fun x => by rw [if_neg x] at e2; exact absurd e2 (by decide)
  · rcases x with x | x
    · exact e x
    · rw [if_pos x.2] at e2
      exact e2 rfl
  · rcases x with x | x
    · exact e x
    · exact e1 x.1
end M88
