/-! THE READER OF THE CLASS: called -/
section M70
variable {F : MF} {n t b z : Nat} {K : List Int}
theorem PI_0 : PI K (0, [], [], [], [], []) := ⟨Nat.zero_le _, Nat.le_refl _, Nat.le_refl _, Nat.le_refl _, Nat.le_refl _, fun k h => absurd h (Nat.not_lt_zero k)⟩
theorem s_58 (hX : RX n t b z K) (hS : St F) (hA : AL (F b) K) (hN : ∀ i, i < K.length → kn K i ≠ 24) (hw : wts K K.length ≤ 199) :
    C_58 n b (K.length : Int) t F (PQ n t b K F (prs K)) m_no := by
  have hK := hX.2.2.2.2.1
  have hz := hX.2.2.2.1
  have hs := hX.2.2.2.2.2.2
  have hb := hX.2.2.2.2.2.1
  have hbn := hb n (Or.inl rfl)
  refine c_58 hX.1 hX.2.2.1 hX.2.1 hS ?_
  have eg : ∀ F1, g_437 F1 0 (g_438 F1 (K.length : Int) (z : Int)) = (K.length : Int) := by
    intro F1
    unfold g_437 g_438
    rw [if_neg (show ¬ (z : Int) < (K.length : Int) by omega)]
    split <;> omega
  rw [eg]
  obtain ⟨F1, e1⟩ : ∃ F1, F1 = m_up (m_up (m_up (m_up (m_up F n 0 (b : Int)) n 1 (K.length : Int)) n 3 (t : Int)) n 2 0) n 6 0 := ⟨_, rfl⟩
  rw [← e1]
  have hS1 : St F1 := by
    rw [e1]
    exact ((((hS.fld (ok_4 hX.1) rk_4_0).fld (ok_4 hX.1) rk_4_1).fld (ok_4 hX.1) rk_4_3).fld (ok_4 hX.1) rk_4_2).fld (ok_4 hX.1) rk_4_6
  have hf1 : fr (fun c => c = n) F F1 := by
    rw [e1]
    exact ((((fr.rf.up (by rfl)).up (by rfl)).up (by rfl)).up (by rfl)).up (by rfl)
  have r0 : F1 n 0 = (b : Int) := by rw [e1, u_ne (Or.inr (by decide)), u_ne (Or.inr (by decide)), u_ne (Or.inr (by decide)), u_ne (Or.inr (by decide)), u_eq]
  have r1 : F1 n 1 = (K.length : Int) := by rw [e1, u_ne (Or.inr (by decide)), u_ne (Or.inr (by decide)), u_ne (Or.inr (by decide)), u_eq]
  have r2 : F1 n 2 = 0 := by rw [e1, u_ne (Or.inr (by decide)), u_eq]
  have r3 : F1 n 3 = (t : Int) := by rw [e1, u_ne (Or.inr (by decide)), u_ne (Or.inr (by decide)), u_eq]
  have r6 : F1 n 6 = 0 := by rw [e1, u_eq]
  refine CaV.on (s_120 hX.2.1 hS1) ?_
  rintro F2 hS2 ⟨k1, k2⟩
  have f1 : F2 n = F1 n := k2 n (fun h => by unfold TP at h; omega)
  have f2 : F2 b = F b := (k2 b (fun h => hb b (Or.inr (Or.inr h)) rfl)).trans (hf1 b (fun e => hbn e.symm))
  have hR : RCp F2 n t b K (0, [], [], [], [], []) := ⟨⟨by rw [f1]; exact r0, by rw [f1]; exact r1, by rw [f1]; exact r3, by rw [f2]; exact hA⟩, by rw [f1]; exact r2, ⟨by rw [f1]; exact r6, trivial⟩, k1⟩
  have := l_58 hX hN hw 600 _ F2 (Nat.le_refl _) PI_0 hS2 hR
  exact EvV.mono this (fun F' _ k => ⟨((hf1.mo (fun c h => Or.inl h)).tr (k2.mo TP_RP)).tr k.1, k.2⟩) (fun _ _ _ h => h)
end M70
