/-! READING, OF THE REFERENCE: a closing bracket behind a unit -/
section M85
variable {F F' : MF} {K : List Int} {n0 N a B : Nat} {C0 C V : List Int} {l : Lv} {r : List Lv}
theorem CL_R {R : Int → MF → Prop} {x1 : Int} (hS : St F) (h4 : F 201 60 = -1) (h5 : F 201 26 = (a : Int)) (h6 : F 201 58 = 0) (ha : a < 1000) (hC : C_230 x1 (F 201 26) F (CL F K n0 C0 r N B (V ++ wd 16 (nts (hdl r)))) m_no)
    (hR : ∀ F', St F' → EHs F' K n0 C0 r (a + 1) (N + B) V → TF n0 F F' → R 0 F') :
    C_230 x1 (F 201 26) F (fun F10 => (-2147483648 ≤ ((F10 201 26) + 1) ∧ ((F10 201 26) + 1) < 2147483648) ∧ R 0 (m_up F10 201 26 ((F10 201 26) + 1))) m_no := by
  refine CaV.on hC ?_
  rintro F2 hS2 ⟨⟨N', y1, rfl⟩, y3, y4, y5⟩
  have k26 : F2 201 26 = (a : Int) := (y4 26 (by decide) (by decide) (by decide) (by decide)).trans h5
  rw [k26]
  refine ⟨by omega, ?_⟩
  obtain ⟨F3, d3⟩ : ∃ F3, F3 = m_up F2 201 26 ((a : Int) + 1) := ⟨_, rfl⟩
  rw [← d3]
  have hS3 : St F3 := by rw [d3]; exact hS2.fld kd_201 rk_12_26
  have z : ∀ c, c ≠ 201 → F3 c = F2 c := fun c hc => by rw [d3, up_row hc]
  have w : ∀ j, j ≠ 26 → F3 201 j = F2 201 j := fun j x => by rw [d3, u_ne (Or.inr x)]
  refine hR F3 hS3 ⟨?_, ?_, ?_, ?_, ?_⟩ ⟨⟨fun c i x y u => by rw [z c (by omega)]; exact y5.1 c i x y u, fun c hc => by rw [z c (fun e => hc (Or.inl e))]; exact y5.2 c hc⟩, fun j x1 x2 x3 x4 x5 x6 x7 => by rw [w j x1, y4 j x2 x3 x4 x5]⟩
  · obtain ⟨s1, q1, lo1, W1, u1, m, W, Wt, f, u2, u3, u4, u5, u6, u7⟩ := y1
    exact ⟨s1, q1, lo1, W1, u1.z z, m, W, Wt, f, u2.z z, u3.cong (by rw [z 239 (by decide)]) (fun c i x y _ => by rw [z c (by omega)]), u4, (w 27 (by decide)).trans u5, (w 51 (by decide)).trans u6, (w 53 (by decide)).trans u7⟩
  · rw [w 54 (by decide)]; exact y3
  · rw [w 60 (by decide), y4 60 (by decide) (by decide) (by decide) (by decide)]; exact h4
  · rw [d3, u_eq]; omega
  · rw [w 58 (by decide), y4 58 (by decide) (by decide) (by decide) (by decide)]; exact h6
theorem g_close {R : Int → MF → Prop} (hS : St F) (h : EHs F K n0 C0 (l :: r) a N C) (hK : LvK K l) (hsh : shp l = 1 ∨ shp l = 2) (hop : 0 ≤ opn l) (hsz : 0 ≤ szs l) (hN : N + 4 < 1600) (ha : a < 1000) (hr : r.length < 210) (hnt : -1 ≤ nts (hdl r))
    (hbd : ∀ s1 q1 lo1 W1, LvB F K n0 C0 (l :: r) s1 q1 lo1 W1 → s1 + 10 < 420 ∧ q1 + 10 < 420)
    (hR : ∀ F', St F' → EHs F' K n0 C0 r (a + 1) (N + ((pl l).length + (wd 16 (nts (hdl r))).length)) (C ++ wd 16 (nts l) ++ (wd 17 (tms l) ++ wd 17 (ads l) ++ wd 17 (cps l)) ++ [mk (if shp l = 1 then 18 else 15) (opn l).toNat (if shp l = 1 then (szs l).toNat else (szs l).toNat + 1)]) → TF n0 F F' → R 0 F') :
    C_230 1 (F 201 26) F (fun F10 => (-2147483648 ≤ ((F10 201 26) + 1) ∧ ((F10 201 26) + 1) < 2147483648) ∧ R 0 (m_up F10 201 26 ((F10 201 26) + 1))) m_no := by
  obtain ⟨h1, h3, h4, h5, h6⟩ := h
  rcases hsh with e | e
  · rw [if_pos e, if_pos e] at hR
    exact CL_R hS h4 h5 h6 ha (s_230g hS h1 hK e hop h3 hnt hN hbd hr 1 _) hR
  · rw [if_neg (by omega), if_neg (by omega)] at hR
    exact CL_R hS h4 h5 h6 ha (s_230c hS h1 hK e hop hsz h3 hnt hN hbd hr _) hR
end M85
