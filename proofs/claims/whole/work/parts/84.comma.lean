/-! READING, OF THE REFERENCE: a comma behind an arg -/
section M84
variable {F F' : MF} {K : List Int} {n0 N a s q lo : Nat} {C0 C W : List Int} {l l' : Lv} {r : List Lv}
theorem g_comma {R : Int → MF → Prop} (hS : St F) (h : EHs F K n0 C0 (l :: r) a N C) (hK : LvK K l) (hsh : shp l = 2) (hN : N + 4 < 1600) (ha : a < 1000) (hr : r.length < 210)
    (hbd : ∀ s1 q1 lo1 W1, LvB F K n0 C0 (l :: r) s1 q1 lo1 W1 → s1 + 10 < 420 ∧ q1 + 10 < 420)
    (hR : ∀ F', St F' → EW F' K n0 C0 ((shp l, opn l, szs l + 1, -1, -1, -1, -1) :: r) (a + 1) (N + (pl l).length) (C ++ wd 16 (nts l) ++ (wd 17 (tms l) ++ wd 17 (ads l) ++ wd 17 (cps l))) → TF n0 F F' → R 1 F') :
    C_225 1 F (fun F7 => C_229 F7 (fun F11 => (0 ≤ (F11 201 54) ∧ (F11 201 54) < 210) ∧ (-2147483648 ≤ ((F11 201 26) + 1) ∧ ((F11 201 26) + 1) < 2147483648) ∧ R 1 (m_up (m_up F11 242 (F11 201 54).toNat 0) 201 26 ((F11 201 26) + 1))) m_no) m_no := by
  obtain ⟨⟨s1, q1, lo1, W1, h1, h2⟩, h3, h4, h5, h6⟩ := h
  obtain ⟨bd1, bd2⟩ := hbd _ _ _ _ h1
  change QE F K s1 q1 lo1 W1 (pl l) N (C ++ wd 16 (nts l)) at h2
  change F 201 54 = (r.length : Int) at h3
  have hlen := pl_len (l := l)
  have hlo : lo1 ≤ N := by
    obtain ⟨m2, W2, Wt2, f2, u1, u2, -⟩ := h2
    have a1 := (PE.rng _ _ _ _ _ u1).2.2
    have a2 := u2.rng
    omega
  refine CaV.on (s_225 (ps := []) (Int.le_refl 1) (fun p r h => by cases h) bd2 bd1 (by decide) (pl l) F N _ hS (by omega) (by omega) (pl_rk hK) (fun h0 => h1.mark h0) (by rw [List.append_nil]; exact h2)) ?_
  rintro F1 hS1 ⟨k1, k2⟩
  rw [pl_wd hK] at k1
  obtain ⟨m', W', Wt, f', p1, p2, p3, p4, p5, p6⟩ := k1
  obtain ⟨-, -, rfl, rfl⟩ := p1
  change F1 201 51 = ((s1 : Nat) : Int) at p5
  change F1 201 53 = ((q1 + 1 : Nat) : Int) at p6
  change Top F1 K q1 m' _ Wt f' at p2
  have gr := LvB.rng _ _ _ _ _ h1
  have hL := h1.ch k2 hlo
  have hd1 : F1 201 54 = (r.length : Int) := by rw [k2.1 54 (by decide) (by decide) (by decide)]; exact h3
  refine CaV.on (s_229 hS1 hL hsh p2 p6 hd1 (by omega) hr (by omega)) ?_
  rintro F3 hS3 ⟨t1, t2, t3, t4, t5⟩
  have k26 : F3 201 26 = (a : Int) := (t3 26 (by decide)).trans ((k2.1 26 (by decide) (by decide) (by decide)).trans h5)
  have k54 : F3 201 54 = (r.length : Int) := (t3 54 (by decide)).trans hd1
  rw [k26, k54, Int.toNat_natCast]
  refine ⟨by omega, by omega, ?_⟩
  obtain ⟨F5, d5⟩ : ∃ F5, F5 = m_up F3 242 r.length 0 := ⟨_, rfl⟩
  have l5 : LvB F5 K n0 C0 ((shp l, opn l, szs l + 1, -1, -1, -1, -1) :: r) s1 q1 (N + (pl l).length) (W' ++ Wt) := t1.re (by rw [d5, u_eq]; rfl) (fun c i x => by rw [d5, u_ne (by omega)]) rfl rfl rfl
  obtain ⟨F6, d6⟩ : ∃ F6, F6 = m_up F5 201 26 ((a : Int) + 1) := ⟨_, rfl⟩
  rw [← d5, ← d6]
  have hS6 : St F6 := by rw [d6, d5]; exact (hS3.arr kd_242 (by decide)).fld kd_201 rk_12_26
  have z : ∀ c, c ≠ 201 → F6 c = F5 c := fun c hc => by rw [d6, up_row hc]
  have zz : ∀ c, c ≠ 201 → c ≠ 242 → F6 c = F3 c := fun c hc x => by rw [z c hc, d5, up_row x]
  have w : ∀ j, j ≠ 26 → F6 201 j = F3 201 j := fun j x => by rw [d6, u_ne (by omega), d5, u_ne (by omega)]
  refine hR F6 hS6 ⟨⟨s1, q1, _, _, s1, q1, l5.z z, ⟨rfl, rfl, rfl, ?_⟩, ?_, ?_⟩, ?_, ?_, ?_, ?_, ?_⟩ ⟨⟨?_, fun c hc => ?_⟩, fun j x1 x2 x3 x4 x5 x6 x7 => ?_⟩
  · exact p3
  · rw [w 51 (by decide), t3 51 (by decide)]; exact p5
  · rw [w 53 (by decide)]; exact t2
  · rw [w 27 (by decide), t3 27 (by decide)]; exact p4
  · rw [w 54 (by decide)]; exact k54
  · show F6 201 60 = -1
    rw [w 60 (by decide), t3 60 (by decide), k2.1 60 (by decide) (by decide) (by decide)]; exact h4
  · rw [d6, u_eq]; omega
  · rw [w 58 (by decide), t3 58 (by decide), k2.1 58 (by decide) (by decide) (by decide)]; exact h6
  · intro c i x y u
    rw [zz c (by omega) (by omega), t4 c i x y u, k2.2.1 c i x y (by omega)]
  · rw [zz c (fun e => hc (Or.inl e)) (fun e => hc (by omega)), t5 c (fun e => hc (by omega)), k2.2.2.2 c (fun e => hc (by omega))]
  · rw [w j x1, t3 j x4, k2.1 j x2 x3 x4]
end M84
