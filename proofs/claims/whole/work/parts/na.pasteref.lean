/-! CALLS THAT CHANGE SOMETHING, OF THE REFERENCE: fragments, saved rows, the name -/
section Mna
variable {F F0 G : MF} {X Y S : Nat → List Int} {N l : List Int} {L : List CH} {d : Bool} {e : Int} {f m k n q r : Nat} {x1 x2 x3 x4 : Int}
/-- the fragment that is laid so far -/
def Fra (F0 F : MF) (l : List Int) : Prop := F 201 117 = (l.length : Int) ∧ AL (F 280) l ∧ (∀ c, c ≠ 201 → c ≠ 280 → F c = F0 c) ∧ ∀ j, j ≠ 117 → F 201 j = F0 201 j
theorem s_340 {c : Int} {R : MF → Prop} (hS : St F) (h : Fra F0 F l) (hl : l.length < 24) (hR : ∀ F', St F' → Fra F0 F' (l ++ [c]) → R F') : C_340 c F R m_no := by
  obtain ⟨h1, h2, h3, h4⟩ := h
  refine c_340 hS ?_
  rw [h1, Int.toNat_natCast]
  refine ⟨by omega, by omega, hR _ ((hS.arr kd_280 (by decide)).fld kd_201 rk_12_117) ⟨by rw [u_eq, List.length_append, List.length_singleton]; omega, ?_, fun c p q => by rw [up_row p, up_row q]; exact h3 c p q, fun j hj => by rw [u_ne (Or.inr hj), up_row (by decide)]; exact h4 j hj⟩⟩
  rw [up_row (by decide)]
  exact h2.up
theorem s_341 {a b c g : Int} {R : MF → Prop} (hS : St F) (h : Fra F0 F l) (hl : l.length < 21) (hR : ∀ F', St F' → Fra F0 F' (l ++ ([a] ++ (if 0 < b then [b] else []) ++ (if 0 < c then [c] else []) ++ (if 0 < g then [g] else []))) → R F') : C_341 a b c g F R m_no := by
  refine c_341 hS (s_340 hS h (by omega) (fun F1 hS1 h1 => ?_))
  have l1 : (l ++ [a]).length = l.length + 1 := by rw [List.length_append, List.length_singleton]
  by_cases cb : 0 < b
  · refine ⟨fun _ => s_340 hS1 h1 (by omega) (fun F2 hS2 h2 => ?_), fun h => absurd cb h⟩
    have l2 : (l ++ [a] ++ [b]).length = l.length + 2 := by rw [List.length_append, l1, List.length_singleton]
    by_cases cc : 0 < c
    · refine ⟨fun _ => s_340 hS2 h2 (by omega) (fun F3 hS3 h3 => ?_), fun h => absurd cc h⟩
      have l3 : (l ++ [a] ++ [b] ++ [c]).length = l.length + 3 := by rw [List.length_append, l2, List.length_singleton]
      by_cases cg : 0 < g
      · refine ⟨fun _ => s_340 hS3 h3 (by omega) (fun F4 hS4 h4 => hR F4 hS4 ?_), fun h => absurd cg h⟩
        rw [if_pos cb, if_pos cc, if_pos cg]
        simp only [List.append_assoc] at h4 ⊢
        exact h4
      · refine ⟨fun h => absurd h cg, fun _ => hR F3 hS3 ?_⟩
        rw [if_pos cb, if_pos cc, if_neg cg]
        simp only [List.append_assoc, List.append_nil] at h3 ⊢
        exact h3
    · refine ⟨fun h => absurd h cc, fun _ => ?_⟩
      by_cases cg : 0 < g
      · refine ⟨fun _ => s_340 hS2 h2 (by omega) (fun F4 hS4 h4 => hR F4 hS4 ?_), fun h => absurd cg h⟩
        rw [if_pos cb, if_neg cc, if_pos cg]
        simp only [List.append_assoc, List.nil_append] at h4 ⊢
        exact h4
      · refine ⟨fun h => absurd h cg, fun _ => hR F2 hS2 ?_⟩
        rw [if_pos cb, if_neg cc, if_neg cg]
        simp only [List.append_assoc, List.append_nil] at h2 ⊢
        exact h2
  · refine ⟨fun h => absurd h cb, fun _ => ?_⟩
    by_cases cc : 0 < c
    · refine ⟨fun _ => s_340 hS1 h1 (by omega) (fun F3 hS3 h3 => ?_), fun h => absurd cc h⟩
      have l3 : (l ++ [a] ++ [c]).length = l.length + 2 := by rw [List.length_append, l1, List.length_singleton]
      by_cases cg : 0 < g
      · refine ⟨fun _ => s_340 hS3 h3 (by omega) (fun F4 hS4 h4 => hR F4 hS4 ?_), fun h => absurd cg h⟩
        rw [if_neg cb, if_pos cc, if_pos cg]
        simp only [List.append_assoc, List.nil_append] at h4 ⊢
        exact h4
      · refine ⟨fun h => absurd h cg, fun _ => hR F3 hS3 ?_⟩
        rw [if_neg cb, if_pos cc, if_neg cg]
        simp only [List.append_assoc, List.append_nil, List.nil_append] at h3 ⊢
        exact h3
    · refine ⟨fun h => absurd h cc, fun _ => ?_⟩
      by_cases cg : 0 < g
      · refine ⟨fun _ => s_340 hS1 h1 (by omega) (fun F4 hS4 h4 => hR F4 hS4 ?_), fun h => absurd cg h⟩
        rw [if_neg cb, if_neg cc, if_pos cg]
        simp only [List.append_assoc, List.nil_append] at h4 ⊢
        exact h4
      · refine ⟨fun h => absurd h cg, fun _ => hR F1 hS1 ?_⟩
        rw [if_neg cb, if_neg cc, if_neg cg]
        simp only [List.append_assoc, List.append_nil] at h1 ⊢
        exact h1
/-- all chars are positive: four at a time -/
theorem g4 {a b c g : Int} {R : MF → Prop} (hS : St F) (h : Fra F0 F l) (hl : l.length < 21) (hp : 0 < b ∧ 0 < c ∧ 0 < g) (hR : ∀ F', St F' → Fra F0 F' (l ++ [a, b, c, g]) → R F') : C_341 a b c g F R m_no :=
  s_341 hS h hl (fun F' hS' h' => hR F' hS' (by rw [if_pos hp.1, if_pos hp.2.1, if_pos hp.2.2] at h'; exact h'))
theorem g3 {a b c : Int} {R : MF → Prop} (hS : St F) (h : Fra F0 F l) (hl : l.length < 21) (hp : 0 < b ∧ 0 < c) (hR : ∀ F', St F' → Fra F0 F' (l ++ [a, b, c]) → R F') : C_341 a b c 0 F R m_no :=
  s_341 hS h hl (fun F' hS' h' => hR F' hS' (by rw [if_pos hp.1, if_pos hp.2, if_neg (by decide)] at h'; exact h'))
theorem g2 {a b : Int} {R : MF → Prop} (hS : St F) (h : Fra F0 F l) (hl : l.length < 21) (hp : 0 < b) (hR : ∀ F', St F' → Fra F0 F' (l ++ [a, b]) → R F') : C_341 a b 0 0 F R m_no :=
  s_341 hS h hl (fun F' hS' h' => hR F' hS' (by rw [if_pos hp, if_neg (by decide)] at h'; exact h'))
theorem s_342 (hS : St F) (hk : k < 24) : C_342 (k : Int) F (fun F' => Fra F F' (ptx k)) m_no := by
  have hS0 : St (m_up F 201 117 0) := hS.fld kd_201 rk_12_117
  have h0 : Fra F (m_up F 201 117 0) [] := ⟨u_eq, AL.nil, fun c p q => up_row p, fun j hj => u_ne (Or.inr hj)⟩
  obtain ⟨H, eH⟩ : ∃ H, H = m_up F 201 117 0 := ⟨_, rfl⟩
  rw [← eH] at hS0 h0
  have y : ∀ {p : Prop} {a b : Prop}, p → a → (p → a) ∧ (¬ p → b) := fun hp ha => ⟨fun _ => ha, fun h => absurd hp h⟩
  have z : ∀ {p : Prop} {a b : Prop}, ¬ p → b → (p → a) ∧ (¬ p → b) := fun hp hb => ⟨fun h => absurd h hp, fun _ => hb⟩
  have fin : ∀ {l : List Int} {G : MF}, Fra F G l → l = ptx k → Fra F G (ptx k) := fun h e => e ▸ h
  refine c_342 hS ?_
  rw [← eH]
  by_cases k0 : k = 0
  · subst k0
    exact y (by decide) (y rfl (g4 hS0 h0 (by decide) (by decide) (fun F1 hS1 h1 => s_340 hS1 h1 (by decide) (fun F2 hS2 h2 => y (by decide) (s_340 hS2 h2 (by decide) (fun F3 hS3 h3 => b_342_58 hS3 (z (by decide) (g3 hS3 h3 (by decide) (by decide) (fun F4 hS4 h4 => fin h4 rfl)))))))))
  by_cases k1 : k = 1
  · subst k1
    exact y (by decide) (z (by decide) (y rfl (g4 hS0 h0 (by decide) (by decide) (fun F1 hS1 h1 => s_340 hS1 h1 (by decide) (fun F2 hS2 h2 => y (by decide) (s_340 hS2 h2 (by decide) (fun F3 hS3 h3 => b_342_58 hS3 (y rfl (g3 hS3 h3 (by decide) (by decide) (fun F4 hS4 h4 => g3 hS4 h4 (by decide) (by decide) (fun F5 hS5 h5 => fin h5 rfl)))))))))))
  by_cases k2 : k = 2
  · subst k2
    exact y (by decide) (z (by decide) (z (by decide) (g4 hS0 h0 (by decide) (by decide) (fun F1 hS1 h1 => s_340 hS1 h1 (by decide) (fun F2 hS2 h2 => z (by decide) (b_342_58 hS2 (z (by decide) (g3 hS2 h2 (by decide) (by decide) (fun F4 hS4 h4 => fin h4 rfl)))))))))
  refine z (by omega) ?_
  by_cases k3 : k = 3
  · subst k3
    exact y rfl (s_340 hS0 h0 (by decide) (fun F1 hS1 h1 => fin h1 rfl))
  refine z (by omega) ?_
  by_cases k22 : k = 22
  · subst k22
    exact y rfl (s_340 hS0 h0 (by decide) (fun F1 hS1 h1 => fin h1 rfl))
  refine z (by omega) ?_
  by_cases k4 : k = 4
  · subst k4
    exact y rfl (g4 hS0 h0 (by decide) (by decide) (fun F1 hS1 h1 => g4 hS1 h1 (by decide) (by decide) (fun F2 hS2 h2 => g4 hS2 h2 (by decide) (by decide) (fun F3 hS3 h3 => g2 hS3 h3 (by decide) (by decide) (fun F4 hS4 h4 => fin h4 rfl)))))
  refine z (by omega) ?_
  by_cases k5 : k = 5
  · subst k5
    exact y rfl (g4 hS0 h0 (by decide) (by decide) (fun F1 hS1 h1 => g4 hS1 h1 (by decide) (by decide) (fun F2 hS2 h2 => g2 hS2 h2 (by decide) (by decide) (fun F3 hS3 h3 => fin h3 rfl))))
  refine z (by omega) ?_
  by_cases k6 : k = 6
  · subst k6
    exact y rfl (b_342_226 hS0 (g4 hS0 h0 (by decide) (by decide) (fun F1 hS1 h1 => y rfl (s_340 hS1 h1 (by decide) (fun F2 hS2 h2 => z (by decide) (s_340 hS2 h2 (by decide) (fun F3 hS3 h3 => fin h3 rfl)))))))
  refine z (by omega) ?_
  by_cases k7 : k = 7
  · subst k7
    exact y rfl (b_342_226 hS0 (g4 hS0 h0 (by decide) (by decide) (fun F1 hS1 h1 => z (by decide) (s_340 hS1 h1 (by decide) (fun F2 hS2 h2 => y rfl (g4 hS2 h2 (by decide) (by decide) (fun F3 hS3 h3 => s_340 hS3 h3 (by decide) (fun F4 hS4 h4 => fin h4 rfl))))))))
  refine z (by omega) ?_
  by_cases k8 : k = 8
  · subst k8
    exact y rfl (g4 hS0 h0 (by decide) (by decide) (fun F1 hS1 h1 => g4 hS1 h1 (by decide) (by decide) (fun F2 hS2 h2 => g2 hS2 h2 (by decide) (by decide) (fun F3 hS3 h3 => fin h3 rfl))))
  refine z (by omega) ?_
  by_cases k9 : k = 9
  · subst k9
    exact y rfl (g4 hS0 h0 (by decide) (by decide) (fun F1 hS1 h1 => g4 hS1 h1 (by decide) (by decide) (fun F2 hS2 h2 => fin h2 rfl)))
  refine z (by omega) (c_343 hS0 ?_)
  by_cases c10 : k = 10
  · subst c10
    exact y rfl (g4 hS0 h0 (by decide) (by decide) (fun F1 hS1 h1 => g4 hS1 h1 (by decide) (by decide) (fun F2 hS2 h2 => g2 hS2 h2 (by decide) (by decide) (fun F3 hS3 h3 => fin h3 rfl))))
  refine z (by omega) ?_
  by_cases c11 : k = 11
  · subst c11
    exact y rfl (g4 hS0 h0 (by decide) (by decide) (fun F1 hS1 h1 => g4 hS1 h1 (by decide) (by decide) (fun F2 hS2 h2 => s_340 hS2 h2 (by decide) (fun F3 hS3 h3 => fin h3 rfl))))
  refine z (by omega) ?_
  by_cases c12 : k = 12
  · subst c12
    exact y rfl (g4 hS0 h0 (by decide) (by decide) (fun F1 hS1 h1 => g4 hS1 h1 (by decide) (by decide) (fun F2 hS2 h2 => g4 hS2 h2 (by decide) (by decide) (fun F3 hS3 h3 => g4 hS3 h3 (by decide) (by decide) (fun F4 hS4 h4 => fin h4 rfl)))))
  refine z (by omega) ?_
  by_cases c16 : k < 16
  · have c3 : k = 13 ∨ k = 14 ∨ k = 15 := by omega
    refine y (by omega) (g4 hS0 h0 (by decide) (by decide) (fun F1 hS1 h1 => ⟨by omega, by omega, g2 hS1 h1 (by decide) (by decide) (fun F2 hS2 h2 => fin h2 ?_)⟩))
    rcases c3 with c | c | c <;> subst c <;> rfl
  refine z (by omega) ?_
  by_cases d16 : k = 16
  · subst d16
    exact y rfl (g4 hS0 h0 (by decide) (by decide) (fun F1 hS1 h1 => g4 hS1 h1 (by decide) (by decide) (fun F2 hS2 h2 => g3 hS2 h2 (by decide) (by decide) (fun F3 hS3 h3 => fin h3 rfl))))
  refine z (by omega) ?_
  by_cases d17 : k = 17
  · subst d17
    exact y rfl (g4 hS0 h0 (by decide) (by decide) (fun F1 hS1 h1 => s_340 hS1 h1 (by decide) (fun F2 hS2 h2 => fin h2 rfl)))
  refine z (by omega) ?_
  by_cases d18 : k = 18
  · subst d18
    exact y rfl (g3 hS0 h0 (by decide) (by decide) (fun F1 hS1 h1 => fin h1 rfl))
  refine z (by omega) ?_
  by_cases d19 : k = 19
  · subst d19
    exact y rfl (g3 hS0 h0 (by decide) (by decide) (fun F1 hS1 h1 => fin h1 rfl))
  refine z (by omega) ?_
  by_cases d20 : k = 20
  · subst d20
    exact y rfl (g4 hS0 h0 (by decide) (by decide) (fun F1 hS1 h1 => g4 hS1 h1 (by decide) (by decide) (fun F2 hS2 h2 => g4 hS2 h2 (by decide) (by decide) (fun F3 hS3 h3 => fin h3 rfl))))
  refine z (by omega) ?_
  by_cases d21 : k = 21
  · subst d21
    exact y rfl (g4 hS0 h0 (by decide) (by decide) (fun F1 hS1 h1 => g4 hS1 h1 (by decide) (by decide) (fun F2 hS2 h2 => g4 hS2 h2 (by decide) (by decide) (fun F3 hS3 h3 => g3 hS3 h3 (by decide) (by decide) (fun F4 hS4 h4 => fin h4 rfl)))))
  refine z (by omega) ?_
  obtain rfl : k = 23 := by omega
  exact g4 hS0 h0 (by decide) (by decide) (fun F1 hS1 h1 => g4 hS1 h1 (by decide) (by decide) (fun F2 hS2 h2 => g3 hS2 h2 (by decide) (by decide) (fun F3 hS3 h3 => fin h3 rfl)))
theorem r_344 (hS : St F) (h : KR F X S N L d e) : C_344 x1 x2 x3 F (ER F (kPa X x1 x2 x3) ((X (rw8 x1 x2)).length + (ptx x3.toNat).length) (xPa X x1 x2 x3) S N L true (rlI X (xPa X x1 x2 x3) x1 x2) X S N L d e) m_no := by
  have bad : ∀ j : Int, kPa X x1 x2 x3 = j → 0 < j → L_344_73 x1 x2 (m_up F 201 15 j) (ER F (kPa X x1 x2 x3) ((X (rw8 x1 x2)).length + (ptx x3.toNat).length) (xPa X x1 x2 x3) S N L true (rlI X (xPa X x1 x2 x3) x1 x2) X S N L d e) m_no := fun j hj hp =>
    b_344_73 (hS.fld kd_201 rk_12_15) ⟨fun _ => ER.nay h hj (by omega), fun c => absurd (by rw [u_eq]; exact hp) c⟩
  refine c_344 hS ⟨fun hp => ?_, fun hp => bad 1 (by unfold kPa; rw [pif_0 (fun c => hp (p_ln.mpr c))]) (by decide)⟩
  have hln := p_ln.mp hp
  obtain ⟨f, m, hf, hm, rfl, rfl⟩ := p_ln.mp hp
  have e8 : rw8 (f : Int) (m : Int) = 8 * f + m := by unfold rw8; omega
  rw [p_in]
  refine ⟨fun h3 => ?_, fun h3 => bad 2 (by unfold kPa; rw [pif_1 hln, pif_0 (fun c => h3 ⟨c.1, by omega⟩)]) (by decide)⟩
  obtain ⟨k, rfl⟩ : ∃ k : Nat, x3 = (k : Int) := ⟨x3.toNat, by omega⟩
  have hk : k < 24 := by omega
  have hk2 : (0 : Int) ≤ (k : Int) ∧ (k : Int) < 24 := by omega
  have hpl := ptx_len k hk
  have hl := (h.hX (8 * f + m) (by omega)).1
  refine CaV.on (s_342 (hS.fld kd_201 rk_12_15) hk) ?_
  rintro F1 hS1 ⟨u1, u2, u3, u4⟩
  have e15 : F1 201 15 = 0 := by rw [u4 15 (by decide), u_eq]
  have hc1 : ∀ c, c ≠ 201 → c ≠ 280 → F1 c = F c := fun c p q => by rw [u3 c p q, up_row p]
  have hq1 : KQ F F1 := ⟨fun c hc => hc1 c (by omega) (by omega), fun j hj => by rw [u4 j (by omega), u_ne (Or.inr (by omega))]⟩
  have t1 := (h.kq hq1).1
  rw [show (8 * (f : Int) + (m : Int)).toNat = 8 * f + m by omega, (t1 (8 * f + m) (by omega)).1, u1]
  refine ⟨by omega, by omega, by omega, by omega, fun hb => ?_, fun hb => ?_⟩
  · have hS2 : St (m_up F1 201 15 3) := hS1.fld kd_201 rk_12_15
    have e3 : kPa X (f : Int) (m : Int) (k : Int) = 3 := by unfold kPa; rw [pif_1 hln, pif_1 hk2, e8, Int.toNat_natCast, pif_0 (by omega)]
    exact b_344_73 hS2 ⟨fun _ => ⟨by rw [u_eq, e3], fun c => absurd (e3.symm.trans c) (by decide), fun _ => h.kq hq1.u15, hq1.u15.rn⟩, fun c => absurd (by rw [u_eq]; decide) c⟩
  · have e0 : kPa X (f : Int) (m : Int) (k : Int) = 0 := by unfold kPa; rw [pif_1 hln, pif_1 hk2, e8, Int.toNat_natCast, pif_1 (by omega)]
    obtain ⟨F2, eF2⟩ : ∃ F2, F2 = m_up F1 201 15 0 := ⟨_, rfl⟩
    rw [← eF2]
    have hS2 : St F2 := by rw [eF2]; exact hS1.fld kd_201 rk_12_15
    have hq2 : KQ F F2 := by rw [eF2]; exact hq1.u15
    have h15 : F2 201 15 = 0 := by rw [eF2, u_eq]
    have h117 : F2 201 117 = ((ptx k).length : Int) := by rw [eF2, u_ne (Or.inr (by decide))]; exact u1
    have h280 : AL (F2 280) (ptx k) := by rw [eF2, up_row (by decide)]; exact u2
    refine b_344_73 hS2 ⟨fun c => absurd c (by rw [h15]; decide), fun _ => CaV.on (s_336 hS2 (h.kq hq2).1 hf) ?_⟩
    rintro F3 hS3 ⟨v1, v2, v3⟩
    have k3 : ∀ c, (c < 201 ∨ (202 ≤ c ∧ c ≤ 212) ∨ 281 ≤ c) → F3 c = F c := fun c hc => by rw [v2 c (by omega) (by omega) (by omega), hq2.1 c hc]
    have t3 : Rws (F3 202) (F3 203) X := by rw [k3 202 (by omega), k3 203 (by omega)]; exact h.1
    have hpt : ∀ c ∈ ptx k, 32 ≤ c ∧ c ≤ 126 := fun c hc => of_decide_eq_true (List.all_eq_true.mp (ptx_ok k hk) c hc)
    obtain ⟨r, er⟩ : ∃ r, r = 8 * f + m := ⟨_, rfl⟩
    have hr24 : r < 24 := by omega
    rw [show 8 * (f : Int) + (m : Int) = ((r : Nat) : Int) by omega]
    refine ⟨by omega, by omega, ?_⟩
    have key : ∀ (d' i : Nat) (G : MF), i + d' = (ptx k).length → St G → fr (fun c => c = 202 ∨ c = 203) F3 G → TxM G (rupd X r (X r ++ (ptx k).take i)) → L_344_98 (f : Int) (m : Int) (r : Int) (i : Int) G (ER F (kPa X (f : Int) (m : Int) (k : Int)) ((X (rw8 (f : Int) (m : Int))).length + (ptx (k : Int).toNat).length) (xPa X (f : Int) (m : Int) (k : Int)) S N L true (rlI X (xPa X (f : Int) (m : Int) (k : Int)) (f : Int) (m : Int)) X S N L d e) m_no := by
      intro d'
      induction d' with
      | zero =>
        intro i G hi hSG hfr hTG
        have g117 : G 201 117 = ((ptx k).length : Int) := by rw [hfr 201 (by decide), v3 117 (by decide)]; exact h117
        rw [List.take_of_length_le (by omega)] at hTG
        refine b_344_98 hSG ?_
        rw [g117]
        refine ⟨fun c => by omega, fun _ => ?_⟩
        refine s_335k (X := X) (Y := rupd X r (X r ++ ptx k)) (l := X r ++ ptx k) hSG h hf hm (by rw [er]) hTG (fun i hi => by rw [hfr 279 (by decide)]; exact v1 i hi) (fun c hc => by rw [hfr c (by omega), k3 c (by omega)]) (fun j hj => by rw [hfr 201 (by decide), v3 j (by omega), hq2.2 j (by omega)]) (by rw [hfr 201 (by decide), v3 15 (by decide)]; exact h15) (fun F' hS' hK' h15' hRn hT' => ?_)
        have ex : rupd X r (X r ++ ptx k) = xPa X (f : Int) (m : Int) (k : Int) := by unfold xPa; rw [e8, Int.toNat_natCast, er]
        rw [Int.toNat_natCast, show ((r : Nat) : Int).toNat = r from rfl, (hT' r hr24).1, upd_eq, List.length_append]
        refine ⟨by omega, by rw [h15', e0], fun _ => ⟨by rw [e8, ← er]; omega, ?_⟩, fun c => absurd e0 c, hRn⟩
        rw [ex] at hK'
        unfold rlI
        rw [Int.toNat_natCast, Int.toNat_natCast]
        exact hK'
      | succ d' ih =>
        intro i G hi hSG hfr hTG
        have hi2 : i < (ptx k).length := by omega
        have g117 : G 201 117 = ((ptx k).length : Int) := by rw [hfr 201 (by decide), v3 117 (by decide)]; exact h117
        have g280 : G 280 i = gx (ptx k) i := by rw [hfr 280 (by decide), v2 280 (by decide) (by omega) (by decide)]; exact h280 i hi2
        have hlen : (X r ++ (ptx k).take i).length = (X r).length + i := by rw [List.length_append, List.length_take]; omega
        have g203 : G 203 r = (((X r).length + i : Nat) : Int) := by rw [(hTG r hr24).1, upd_eq, hlen]
        have hlr : (X r).length + (ptx k).length ≤ 24 := by rw [er]; omega
        refine b_344_98 hSG ?_
        rw [g117, Int.toNat_natCast, Int.toNat_natCast, g203, g280, show (24 * (r : Int) + (((X r).length + i : Nat) : Int)).toNat = 24 * r + ((X r).length + i) by omega]
        refine ⟨fun _ => ⟨by omega, by omega, by omega, by omega, by omega, by omega, by omega, by omega, by omega, ?_⟩, fun c => by omega⟩
        have hcx := hpt _ (gx_mem hi2)
        have e1 : X r ++ (ptx k).take (i + 1) = X r ++ (ptx k).take i ++ [gx (ptx k) i] := by
          rw [List.take_succ_eq_append_getElem hi2, ← List.append_assoc]
          congr 1
          unfold gx
          rw [List.getD_eq_getElem?_getD, List.getElem?_eq_getElem hi2]
          rfl
        have hrok : Rok (X r ++ (ptx k).take i) := by have := (hTG r hr24).2.1; rw [upd_eq] at this; exact this
        have hrok2 : Rok (X r ++ (ptx k).take (i + 1)) := by
          rw [e1]
          refine ⟨by rw [List.length_append, hlen, List.length_singleton]; omega, fun a ha => ?_⟩
          rcases List.mem_append.mp ha with c | c
          · exact hrok.2 a c
          · rw [List.mem_singleton.mp c]; exact hcx
        have hT2 : TxM (m_up (m_up G 202 (24 * r + ((X r).length + i)) (gx (ptx k) i)) 203 r ((((X r).length + i : Nat) : Int) + 1)) (rupd X r (X r ++ (ptx k).take (i + 1))) := by
          have e2 : rupd (rupd X r (X r ++ (ptx k).take i)) r (X r ++ (ptx k).take (i + 1)) = rupd X r (X r ++ (ptx k).take (i + 1)) := funext fun z => by
            by_cases c : z = r
            · rw [c, upd_eq, upd_eq]
            · rw [upd_ne c, upd_ne c, upd_ne c]
          rw [← e2]
          refine rws_row hTG hr24 hrok2 (fun z hz => by rw [up_row (by decide), u_ne (Or.inr (by omega))]) (fun i hi => by rw [u_ne (Or.inr hi), up_row (by decide)]) (by rw [u_eq, e1, List.length_append, hlen, List.length_singleton]; omega) (fun j hj => ?_)
          rw [e1, List.length_append, hlen, List.length_singleton] at hj
          rw [e1, up_row (by decide), gx_app, hlen]
          by_cases c : j < (X r).length + i
          · rw [if_pos c, u_ne (Or.inr (by omega))]
            have := (hTG r hr24).2.2 j (by rw [upd_eq, hlen]; exact c)
            rw [upd_eq] at this
            exact this
          · rw [if_neg c, show j = (X r).length + i by omega, u_eq, Nat.sub_self]
            rfl
        have := ih (i + 1) _ (by omega) ((hSG.arr kd_202 (by decide)).arr kd_203 (by decide)) ((hfr.up (Or.inl rfl)).up (Or.inr rfl)) hT2
        rw [show ((i + 1 : Nat) : Int) = (i : Int) + 1 by omega] at this
        exact this
    refine key (ptx k).length 0 F3 (by omega) hS3 fr.rf ?_
    have e0 : rupd X r (X r ++ (ptx k).take 0) = X := funext fun z => by
      rw [List.take_zero, List.append_nil]
      by_cases c : z = r
      · rw [c, upd_eq]
      · rw [upd_ne c]
    rw [e0]
    exact t3
end Mna
