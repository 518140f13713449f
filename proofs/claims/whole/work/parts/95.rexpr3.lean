/-! READING, OF THE REFERENCE: readExpr, called -/
section M95
variable {F F' : MF} {K : List Int} {n0 a : Nat} {C0 : List Int}
theorem s_233 {called : Bool} (hS : St F) (hQ : SQ F K) (hK : K.length ≤ 195) (hn : n0 + K.length + 10 < 1600 + a) (ha : a ≤ K.length) (h26 : F 201 26 = (a : Int)) (h27 : F 201 27 = (n0 : Int)) (hc : called = true → kn K a = 0 ∧ kn K (a + 1) = 10) :
    C_233 (bi called) F (XE K n0 a C0 F (exr K called a C0)) m_no := by
  refine c_233 hS ?_
  obtain ⟨F1, d1⟩ : ∃ F1, F1 = m_up (m_up (m_up (m_up (m_up (m_up (m_up F 201 51 0) 201 53 0) 201 54 0) 242 (0 : Int).toNat 0) 201 60 (-1)) 201 58 0) 201 63 0 := ⟨_, rfl⟩
  rw [← d1]
  have hS1 : St F1 := by
    rw [d1]
    exact ((((((hS.fld kd_201 rk_12_51).fld kd_201 rk_12_53).fld kd_201 rk_12_54).arr kd_242 (by decide)).fld kd_201 rk_12_60).fld kd_201 rk_12_58).fld kd_201 rk_12_63
  have z : ∀ c, c ≠ 201 → c ≠ 242 → F1 c = F c := fun c h1 h2 => by rw [d1, up_row h1, up_row h1, up_row h1, up_row h2, up_row h1, up_row h1, up_row h1]
  have w : ∀ j, j ≠ 51 → j ≠ 53 → j ≠ 54 → j ≠ 58 → j ≠ 60 → j ≠ 63 → F1 201 j = F 201 j := fun j h1 h2 h3 h4 h5 h6 => by
    rw [d1, u_ne (by omega), u_ne (by omega), u_ne (by omega), u_ne (by omega), u_ne (by omega), u_ne (by omega), u_ne (by omega)]
  have f51 : F1 201 51 = 0 := by rw [d1, u_ne (by omega), u_ne (by omega), u_ne (by omega), u_ne (by omega), u_ne (by omega), u_ne (by omega), u_eq]
  have f53 : F1 201 53 = 0 := by rw [d1, u_ne (by omega), u_ne (by omega), u_ne (by omega), u_ne (by omega), u_ne (by omega), u_eq]
  have f54 : F1 201 54 = 0 := by rw [d1, u_ne (by omega), u_ne (by omega), u_ne (by omega), u_ne (by omega), u_eq]
  have f242 : F1 242 0 = 0 := by rw [d1, u_ne (by omega), u_ne (by omega), u_ne (by omega)]; exact u_eq
  have f60 : F1 201 60 = -1 := by rw [d1, u_ne (by omega), u_ne (by omega), u_eq]
  have f58 : F1 201 58 = 0 := by rw [d1, u_ne (by omega), u_eq]
  have f63 : F1 201 63 = 0 := by rw [d1, u_eq]
  have te : TE n0 F F1 := ⟨⟨fun c i x y _ => by rw [z c (by omega) (by omega)], fun c hc => z c (fun e => hc (Or.inl e)) (fun e => hc (by omega))⟩, fun j x1 x2 x3 x4 x5 x6 x7 x8 x9 => w j x3 x4 x5 x6 x8 x9⟩
  have hQ1 : SQ F1 K := fun i hi => by rw [z 220 (by decide) (by decide)]; exact hQ i hi
  have hE : EW F1 K n0 C0 [lv0 0 a] a n0 C0 := ⟨⟨0, 0, n0, C0, 0, 0, ⟨f242, Or.inl ⟨rfl, rfl, rfl, rfl, rfl, rfl⟩⟩, ⟨rfl, rfl, rfl, rfl⟩, f51, f53⟩, (w 27 (by decide) (by decide) (by decide) (by decide) (by decide) (by decide)).trans h27, f54, f60, (w 26 (by decide) (by decide) (by decide) (by decide) (by decide) (by decide)).trans h26, f58⟩
  have hJ : JW K n0 a a n0 [lv0 0 a] := ⟨⟨fun l hl => by
      rw [List.mem_singleton.mp hl]
      exact ⟨LvK.lv0, by show (0 : Int) ≤ (a : Int); omega, Int.le_refl 0, fun e => absurd (show (0 : Int) = 2 from e) (by decide)⟩, by show 0 + 0 + 1 + a ≤ a + 1; omega⟩, by show n0 + (0 + 0 + 0) + a ≤ n0 + a; omega, fun e => absurd (show (0 : Int) = 2 from e) (by decide)⟩
  cases called with
  | false =>
    have := l_233 (x1 := 0) (bot := []) (K := K) (n0 := n0) (a0 := a) (C0 := C0) (Or.inl ⟨rfl, rfl⟩) hK hn (K.length + 2) (1, a, [lv0 0 a], C0) n0 F1 hS1 hQ1 f63 (Nat.le_refl _) ha (by show K.length + 1 ≤ a + (K.length + 2); omega) (by simp) (Or.inl ⟨rfl, hE, hJ⟩)
    exact EvV.mono this (fun F' _ g => g.pre te) (fun _ _ _ h => h)
  | true =>
    obtain ⟨k0, k1⟩ := hc rfl
    have hlt : a + 1 < K.length := kn_lt (by omega)
    refine l_W hS1 f63 hE hJ hQ1 ha hK (fun x hx => ?_)
    refine CaI.on (s_231 hS1 hE (hJ.tb hQ1 hE ha hK hn) hx) ?_
    intro v F2 hS2 hU
    have ex : xop K a (lv0 0 a) [] C0 = (1, a + 2, [lv0 2 a, lv0 0 a], C0) := by
      unfold xop
      rw [if_neg (by omega), if_pos ⟨k0, k1⟩]
    rw [ex] at hU
    obtain ⟨t, u1, -⟩ := hU
    obtain ⟨rfl, N', p1, p2⟩ := u1 rfl
    have h632 : F2 201 63 = 0 := (t.2 63 (by decide) (by decide) (by decide) (by decide) (by decide) (by decide) (by decide)).trans f63
    refine l_121 hS2 h632 (fun _ e => absurd e (by decide)) ?_
    have hJ2 : JW K n0 a (a + 2) N' [lv0 2 a, lv0 0 a] := by
      refine ⟨⟨fun l hl => ?_, by show 0 + (0 + 0) + 2 + a ≤ a + 2 + 1; omega⟩, ?_, fun _ => ⟨⟨fun _ => by show ((a + 2 : Nat) : Int) = (a : Int) + 2; omega, fun _ => ?_⟩, fun _ => ⟨rfl, rfl⟩⟩⟩
      · rcases List.mem_cons.mp hl with e | e
        · rw [e]
          exact ⟨LvK.lv0, by show (0 : Int) ≤ (a : Int); omega, Int.le_refl 0, fun _ => by show (a : Int) + 2 ≤ ((a + 2 : Nat) : Int); omega⟩
        · exact (hJ.1.1 l e).le (by omega)
      · change N' + (0 + 0 + (0 + 0 + 0)) + a ≤ n0 + (0 + 0 + 0) + (a + 2) at p2
        show N' + (0 + 0 + (0 + 0 + 0)) + a ≤ n0 + (a + 2)
        omega
      · show kn K (a + 2 - 1) = 10
        rw [show a + 2 - 1 = a + 1 by omega]
        exact k1
    have := l_233 (x1 := 1) (bot := [lv0 0 a]) (K := K) (n0 := n0) (a0 := a) (C0 := C0) (Or.inr ⟨by decide, _, rfl, rfl⟩) hK hn (K.length + 2) (1, a + 2, [lv0 2 a], C0) N' F2 hS2 (fun i hi => by rw [t.1.2 220 (by omega)]; exact hQ1 i hi) h632 (by show a ≤ a + 2; omega) (by show a + 2 ≤ _; omega) (by show K.length + 1 ≤ a + 2 + (K.length + 2); omega) (by simp) (Or.inl ⟨rfl, p1, hJ2⟩)
    exact EvV.mono this (fun F' _ g => g.pre (te.tr t.tg.te)) (fun _ _ _ h => h)
end M95
