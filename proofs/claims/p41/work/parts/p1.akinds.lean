/-! EDITS: the kinds of edits, and the loop -/
section Mp1
variable {D : Nat → Prop} {nc ns n m k f q : Nat} {F F1 G : MF} {g0 g1 : Nat → Int} {X S Y Z W X1 S1 : Nat → List Int} {d d1 : Bool} {e e1 t y B : Int} {R : Int → MF → Prop}
theorem tp_upd {T T1 : Nat → Int} {l : List Int} (hm : m < 8) (h : TPw T (fil X f)) (hT : TR8 T1) (hl : l.length ≤ 24) (h1 : ∀ m2 k2, m2 < 8 → k2 < 24 → m2 ≠ m → dg T1 m2 k2 = dg T m2 k2) (h2 : ∀ k2, k2 < l.length → dg T1 m k2 = gx l k2) : TPw T1 (fil (rupd X (8 * f + m) l) f) := by
  refine ⟨hT, fun m2 hm2 => ?_⟩
  unfold fil
  by_cases c : m2 = m
  · rw [c, upd_eq]
    exact ⟨hl, h2⟩
  · rw [upd_ne (by omega)]
    have h3 := h.2 m2 hm2
    have h4 : (X (8 * f + m2)).length ≤ 24 := h3.1
    exact ⟨h3.1, fun k2 hk2 => by rw [h1 m2 k2 hm2 (by omega) c]; exact h3.2 k2 hk2⟩
theorem ll_upd {L : Nat → Int} {l : List Int} {r : Nat} {v : Int} (h : LL L X) (hv : v = (l.length : Int)) : LL (fun j => if j = r then v else L j) (rupd X r l) := by
  intro i hi
  dsimp only
  by_cases c : i = r
  · rw [if_pos c, c, upd_eq, hv]
  · rw [if_neg c, upd_ne c]
    exact h i hi
theorem fil_ne {l : List Int} {g : Nat} (hm : m < 8) (hg : g ≠ f) (hk : k < 8) : fil (rupd X (8 * f + m) l) g k = fil X g k := by
  unfold fil
  rw [upd_ne (by omega)]
/-- the rows of the law are brought up to date -/
theorem EV.upd {l : List Int} {v : Int} {F2 : MF} (hf : f < 3) (hm : m < 8) (h : EV g0 g1 F X1 S X S d e) (hS2 : St F2) (hO : ∀ a, a ≠ 201 + f → F2 a = F a) (hT : TR8 (F2 (201 + f))) (hl : l.length ≤ 24)
    (hv : v = (l.length : Int)) (h1 : ∀ m2 k2, m2 < 8 → k2 < 24 → m2 ≠ m → dg (F2 (201 + f)) m2 k2 = dg (F (201 + f)) m2 k2) (h2 : ∀ k2, k2 < l.length → dg (F2 (201 + f)) m k2 = gx l k2) :
    EV g0 g1 (m_up F2 207 (8 * f + m) v) X1 S (rupd X (8 * f + m) l) S d e := by
  refine h.row (St.arr hS2 kd_207 (by decide)) (fun c hc hc2 => by rw [up_row hc2]; exact hO c hc) hf ?_ ?_ (fun g hg hgf i hi => fil_ne hm hgf hi)
  · rw [up_row (by omega)]
    exact tp_upd hm (h.2.2.1 f hf).1 hT hl h1 h2
  · rw [m_upr, hO 207 (by omega)]
    exact ll_upd h.2.2.2.1 hv
/-- how many lines were looked at -/
theorem e_cmp {P1 P2 : MF → Prop} (hf : f < 3) (hm : m < 8) (h : EV g0 g1 G X1 S X1 S d (relx X X1 f m : Nat)) (hB : BS B (fun i => md X f (i + 1)) 8) (hN : P1 G) :
    C_149 G (fun r9 F6 => C_208 (201 + f) 207 (f : Int) (m : Int) B F6 (fun r13 F10 => ((r9 = r13 → P1 F10) ∧ (¬ (r9 = r13) → P2 F10))) m_no) m_no := by
  refine CaI.on (gs_149 h.1) ?_
  rintro r F1 hS1 ⟨h1, rfl⟩
  refine CaI.on (s_208 (X := X) (Y := X1) (kd_t hf).1 kd_207 h.1 hf hm (h.2.2.1 f hf).1 h.2.2.2.1 hB) ?_
  rintro r2 F2 hS2 ⟨h2, rfl⟩
  have h6 := h.2.1.2.2.2.2.2.1
  refine ⟨fun _ => hN, fun hne => absurd ?_ hne⟩
  rw [h1, h2]
  exact h6
/-- the length of a row in the law -/
theorem EV.len (hf : f < 3) (hm : m < 8) (h : EV g0 g1 F X1 S1 X S d e) : F 207 (8 * f + m) = ((X (8 * f + m)).length : Int) := h.2.2.2.1 _ (by omega)
theorem EV.le (hf : f < 3) (hm : m < 8) (h : EV g0 g1 F X1 S1 X S d e) : (X (8 * f + m)).length ≤ 24 := ((h.2.2.1 f hf).1.2 m hm).1
theorem EV.dg (hf : f < 3) (hm : m < 8) (h : EV g0 g1 F X1 S1 X S d e) (hk : k < (X (8 * f + m)).length) : dg (F (201 + f)) m k = gx (X (8 * f + m)) k := ((h.2.2.1 f hf).1.2 m hm).2 k hk
theorem k_ins {c : Int} (hf : f < 3) (hm : m < 8) (hb : 1 ≤ nc ∧ 6 ≤ ns) (hB : BS B (fun i => md X f (i + 1)) 8) (h : EV g0 g1 F X S X S d e)
    (hN : ∀ F1 X1 S1 d1 e1, EV g0 g1 F1 X1 S1 X1 S1 d1 e1 → L_388_1175 D (nc - 1) (ns - 6) 201 202 203 204 205 206 207 208 1 t y F1 R) (hq : q ≤ (X (8 * f + m)).length) (hc : 32 ≤ c ∧ c ≤ 126) : L_388_422 D nc ns 201 202 203 204 205 206 207 208 t y (f : Int) (m : Int) (201 + f) ((8 * f + m : Nat) : Int) B (q : Int) c F R := by
  have hk := (kd_t hf).1
  refine b_388_422 kd_201 kd_202 kd_203 kd_204 kd_205 kd_206 kd_207 kd_208 hk h.1 ⟨hb, CaWI.on (dv_0 hf hm hq hc h) ?_⟩
  rintro r F1 hS1 (⟨c2, rfl, h1⟩ | ⟨c2, rfl, h1⟩)
  · have e7 := h1.len hf hm
    simp only [Int.toNat_natCast, e7]
    refine ⟨⟨by omega, by omega⟩, fun h24 => by omega, fun _ => ⟨⟨by omega, by omega⟩, ⟨by omega, by omega⟩, fun _ => ?_, fun hne => absurd trivial hne⟩⟩
    refine b_388_467 kd_201 kd_202 kd_203 kd_204 kd_205 kd_206 kd_207 kd_208 hk hS1 ?_
    simp only [Int.toNat_natCast, e7]
    refine ⟨⟨by omega, by omega⟩, fun _ => ⟨⟨by omega, by omega⟩, ?_⟩, fun h => by omega⟩
    refine l_ins hf hm c2 ⟨by omega, by omega⟩ e7 ?_ ((X (8 * f + m)).length - q) _ F1 (by omega) (Nat.le_refl _) hS1 ((h1.2.2.1 f hf).1.1) (fun _ _ => rfl) (fun m2 k2 _ _ => by rw [if_neg (by omega)])
    intro F2 hS2 hT2 hO2 hD2
    refine e_cmp (X := X) hf hm (EV.upd hf hm h1 hS2 hO2 hT2 (l := ins (X (8 * f + m)) q c) (by rw [ins_len hq]; omega) (by rw [ins_len hq]; omega) (fun m2 k2 a1 a2 a3 => by rw [hD2 m2 k2 a1 a2, if_neg (fun h => a3 h.1)]) (fun k2 hk2 => ?_)) hB ?_
    · rw [ins_len hq] at hk2
      rw [hD2 m k2 hm (by omega), ins_gx hq]
      by_cases c3 : k2 < q
      · rw [if_neg (by omega), if_pos c3]
        exact h1.dg hf hm (by omega)
      · rw [if_pos ⟨rfl, by omega, by omega⟩, if_neg c3]
        by_cases c4 : k2 = q
        · rw [if_pos c4, if_pos c4]
        · rw [if_neg c4, if_neg c4]
          exact h1.dg hf hm (by omega)
    · have h2 := EV.upd hf hm h1 hS2 hO2 hT2 (l := ins (X (8 * f + m)) q c) (v := ((X (8 * f + m)).length : Int) + 1) (by rw [ins_len hq]; omega) (by rw [ins_len hq]; omega) (fun m2 k2 a1 a2 a3 => by rw [hD2 m2 k2 a1 a2, if_neg (fun h => a3 h.1)]) (fun k2 hk2 => by
        rw [ins_len hq] at hk2
        rw [hD2 m k2 hm (by omega), ins_gx hq]
        by_cases c3 : k2 < q
        · rw [if_neg (by omega), if_pos c3]
          exact h1.dg hf hm (by omega)
        · rw [if_pos ⟨rfl, by omega, by omega⟩, if_neg c3]
          by_cases c4 : k2 = q
          · rw [if_pos c4, if_pos c4]
          · rw [if_neg c4, if_neg c4]
            exact h1.dg hf hm (by omega))
      exact b_388_569 kd_201 kd_202 kd_203 kd_204 kd_205 kd_206 kd_207 kd_208 h2.1 (hN _ _ _ _ _ h2)
  · have e7 := h1.len hf hm
    have e8 := h1.le hf hm
    simp only [Int.toNat_natCast, e7]
    refine ⟨⟨by omega, by omega⟩, fun _ => ⟨fun _ => ?_, fun hne => absurd trivial hne⟩, fun h24 => by omega⟩
    refine b_388_467 kd_201 kd_202 kd_203 kd_204 kd_205 kd_206 kd_207 kd_208 hk hS1 ?_
    simp only [Int.toNat_natCast, e7]
    exact ⟨⟨by omega, by omega⟩, fun h => by omega, fun _ => b_388_569 kd_201 kd_202 kd_203 kd_204 kd_205 kd_206 kd_207 kd_208 hS1 (hN _ _ _ _ _ h1)⟩
theorem k_del (hf : f < 3) (hm : m < 8) (hb : 1 ≤ nc ∧ 6 ≤ ns) (hB : BS B (fun i => md X f (i + 1)) 8) (h : EV g0 g1 F X S X S d e)
    (hN : ∀ F1 X1 S1 d1 e1, EV g0 g1 F1 X1 S1 X1 S1 d1 e1 → L_388_1175 D (nc - 1) (ns - 6) 201 202 203 204 205 206 207 208 1 t y F1 R) (hq : q < (X (8 * f + m)).length ∨ (X (8 * f + m)).length = 0) (hq24 : q < 24) : L_388_604 D nc ns 201 202 203 204 205 206 207 208 t y (f : Int) (m : Int) (201 + f) ((8 * f + m : Nat) : Int) B (q : Int) F R := by
  have hk := (kd_t hf).1
  have e8 := h.le hf hm
  refine b_388_604 kd_201 kd_202 kd_203 kd_204 kd_205 kd_206 kd_207 kd_208 hk h.1 ⟨hb, CaWI.on (dv_1 hf hm hq h) ?_⟩
  rintro r F1 hS1 (⟨c2, rfl, h1⟩ | ⟨c2, rfl, h1⟩)
  · have e7 := h1.len hf hm
    simp only [Int.toNat_natCast, e7]
    refine ⟨⟨by omega, by omega⟩, fun h0 => by omega, fun _ => CaI.on (s_201 hk hS1 (h1.2.2.1 f hf).1.1 hm hq24) ?_⟩
    rintro r F2 hS2 ⟨rfl, rfl⟩
    refine ⟨fun _ => ?_, fun hne => absurd (h1.dg hf hm c2).symm hne⟩
    refine b_388_648 kd_201 kd_202 kd_203 kd_204 kd_205 kd_206 kd_207 kd_208 hk hS2 ?_
    simp only [Int.toNat_natCast, e7]
    refine ⟨⟨by omega, by omega⟩, fun _ => ?_, fun h => by omega⟩
    refine l_del hf hm e8 (by omega) e7 ?_ ((X (8 * f + m)).length - 1 - q) q _ (by omega) (Nat.le_refl _) hS2 ((h1.2.2.1 f hf).1.1) (fun _ _ => rfl) (fun m2 k2 _ _ => by rw [if_neg (by omega)])
    intro F2 hS2 hT2 hO2 hD2
    have h2 := EV.upd hf hm h1 hS2 hO2 hT2 (l := del (X (8 * f + m)) q) (v := ((X (8 * f + m)).length : Int) - 1) (by rw [del_len c2]; omega) (by rw [del_len c2]; omega) (fun m2 k2 a1 a2 a3 => by rw [hD2 m2 k2 a1 a2, if_neg (fun h => a3 h.1)]) (fun k2 hk2 => by
      rw [del_len c2] at hk2
      rw [hD2 m k2 hm (by omega), del_gx c2]
      by_cases c3 : k2 < q
      · rw [if_neg (by omega), if_pos c3]
        exact h1.dg hf hm (by omega)
      · rw [if_pos ⟨rfl, by omega, by omega⟩, if_neg c3]
        exact h1.dg hf hm (by omega))
    exact e_cmp (X := X) hf hm h2 hB (b_388_739 kd_201 kd_202 kd_203 kd_204 kd_205 kd_206 kd_207 kd_208 h2.1 (hN _ _ _ _ _ h2))
  · have e7 := h1.len hf hm
    simp only [Int.toNat_natCast, e7]
    refine ⟨⟨by omega, by omega⟩, fun _ => ⟨fun _ => ?_, fun hne => absurd trivial hne⟩, fun h0 => by omega⟩
    refine b_388_648 kd_201 kd_202 kd_203 kd_204 kd_205 kd_206 kd_207 kd_208 hk hS1 ?_
    simp only [Int.toNat_natCast, e7]
    exact ⟨⟨by omega, by omega⟩, fun h => by omega, fun _ => b_388_739 kd_201 kd_202 kd_203 kd_204 kd_205 kd_206 kd_207 kd_208 hS1 (hN _ _ _ _ _ h1)⟩
theorem k_clr (hf : f < 3) (hm : m < 8) (hB : BS B (fun i => md X f (i + 1)) 8) 
    (hN : ∀ F1 X1 S1 d1 e1, EV g0 g1 F1 X1 S1 X1 S1 d1 e1 → L_388_1175 D (nc - 1) (ns - 6) 201 202 203 204 205 206 207 208 1 t y F1 R) (h1 : EV g0 g1 F1 X1 S X S d1 (relx X X1 f m : Nat)) (hX : X1 = rupd X (8 * f + m) []) : L_388_775 D (nc - 1) (ns - 6) 201 202 203 204 205 206 207 208 1 t y (f : Int) (m : Int) (201 + f) ((8 * f + m : Nat) : Int) B F1 R := by
  subst hX
  have hk := (kd_t hf).1
  have h2 := EV.upd hf hm h1 h1.1 (fun _ _ => rfl) (h1.2.2.1 f hf).1.1 (l := []) (v := 0) (Nat.zero_le _) rfl (fun m2 k2 a1 a2 a3 => rfl) (fun k2 hk2 => absurd hk2 (Nat.not_lt_zero _))
  refine b_388_775 kd_201 kd_202 kd_203 kd_204 kd_205 kd_206 kd_207 kd_208 hk h1.1 ?_
  simp only [Int.toNat_natCast]
  exact ⟨⟨by omega, by omega⟩, fun h => absurd h (by decide), fun _ => e_cmp (X := X) hf hm h2 hB (hN _ _ _ _ _ h2)⟩
theorem k_pst {o : Int} {p : Nat} (hf : f < 3) (hm : m < 8) (hB : BS B (fun i => md X f (i + 1)) 8) 
    (hN : ∀ F1 X1 S1 d1 e1, EV g0 g1 F1 X1 S1 X1 S1 d1 e1 → L_388_1175 D (nc - 1) (ns - 6) 201 202 203 204 205 206 207 208 1 t y F1 R) (hp : o = 1 ∧ p = 18 ∨ o = 0 ∧ p = 19) {r : Int} (h1 : ((X (8 * f + m)).length ≤ 21 ∧ r = (X (8 * f + m)).length + 3 ∧ EV g0 g1 F1 (rupd X (8 * f + m) (X (8 * f + m) ++ ptx p)) S X S true (relx X (rupd X (8 * f + m) (X (8 * f + m) ++ ptx p)) f m : Nat)) ∨ (21 < (X (8 * f + m)).length ∧ r = -13 ∧ EV g0 g1 F1 X S X S d e)) :
    L_388_1061 D (nc - 1) (ns - 6) 201 202 203 204 205 206 207 208 1 t y (f : Int) (m : Int) (201 + f) ((8 * f + m : Nat) : Int) B o F1 R := by
  have hk := (kd_t hf).1
  rcases h1 with ⟨c2, rfl, h1⟩ | ⟨c2, rfl, h1⟩
  · have e7 := h1.len hf hm
    have hl : (ptx p).length = 3 := by
      rcases hp with ⟨-, rfl⟩ | ⟨-, rfl⟩
      · rw [ptx_18]; rfl
      · rw [ptx_19]; rfl
    have hg : ∀ j, j < 3 → gx (ptx p) j = pch o j := by
      intro j hj
      have h3 : j = 0 ∨ j = 1 ∨ j = 2 := by omega
      rcases hp with ⟨rfl, rfl⟩ | ⟨rfl, rfl⟩
      · rw [ptx_18]
        rcases h3 with rfl | rfl | rfl <;> rfl
      · rw [ptx_19]
        rcases h3 with rfl | rfl | rfl <;> rfl
    refine b_388_1061 kd_201 kd_202 kd_203 kd_204 kd_205 kd_206 kd_207 kd_208 hk h1.1 ?_
    simp only [Int.toNat_natCast, e7]
    refine ⟨⟨by omega, by omega⟩, fun _ => ?_, fun h => by omega⟩
    refine l_pst hf hm c2 e7 ?_ 3 0 F1 rfl h1.1 ((h1.2.2.1 f hf).1.1) (fun _ _ => rfl) (fun m2 k2 _ _ => by rw [if_neg (by omega)])
    intro F2 hS2 hT2 hO2 hD2
    have h2 := EV.upd hf hm h1 hS2 hO2 hT2 (l := X (8 * f + m) ++ ptx p) (v := ((X (8 * f + m)).length : Int) + 3) (by rw [List.length_append, hl]; omega) (by rw [List.length_append, hl]; omega) (fun m2 k2 a1 a2 a3 => by rw [hD2 m2 k2 a1 a2, if_neg (fun h => a3 h.1)]) (fun k2 hk2 => by
      rw [List.length_append, hl] at hk2
      rw [hD2 m k2 hm (by omega), gx_app]
      by_cases c3 : k2 < (X (8 * f + m)).length
      · rw [if_neg (by omega), if_pos c3]
        exact h1.dg hf hm c3
      · rw [if_pos ⟨rfl, by omega, by omega⟩, if_neg c3, hg _ (by omega)])
    exact e_cmp (X := X) hf hm h2 hB (hN _ _ _ _ _ h2)
  · have e7 := h1.len hf hm
    refine b_388_1061 kd_201 kd_202 kd_203 kd_204 kd_205 kd_206 kd_207 kd_208 hk h1.1 ?_
    simp only [Int.toNat_natCast, e7]
    exact ⟨⟨by omega, by omega⟩, fun h => by omega, fun _ => hN _ _ _ _ _ h1⟩
theorem cpf_self : cpf X X f 8 = X := funext fun r => by unfold cpf; split <;> rfl
/-- saved, or had back -/
theorem ev_cp {F3 : MF} (hf : f < 3) (h : EV g0 g1 F X1 S1 X S d e) (hW : TPw (F n) (fil W f)) (h1 : ∀ i, i < 24 → F3 (201 + f) i = F n i ∧ F3 (204 + f) i = F n i) (h2 : ∀ i, 8 * f ≤ i → i < 8 * f + 8 → F3 207 i = ((W i).length : Int) ∧ F3 208 i = ((W i).length : Int))
    (h3 : ∀ i, i < 8 * f ∨ 8 * f + 8 ≤ i → F3 207 i = F 207 i ∧ F3 208 i = F 208 i) (h4 : ∀ a, a ≠ 201 + f → a ≠ 204 + f → a ≠ 207 → a ≠ 208 → F3 a = F a) (hS : St F3) : EV g0 g1 F3 X1 S1 (cpf W X f 8) (cpf W S f 8) d e := by
  obtain ⟨a1, a2, a3, a4, a5, a6, a7⟩ := h
  have w1 : ∀ Y m, m < 8 → fil (cpf W Y f 8) f m = fil W f m := fun Y m hm => by
    unfold fil cpf
    rw [if_pos (by omega)]
  have w2 : ∀ Y g m, m < 8 → g ≠ f → fil (cpf W Y f 8) g m = fil Y g m := fun Y g m hm hg => by
    unfold fil cpf
    rw [if_neg (by omega)]
  refine ⟨hS, a2.lo (fun c hc => h4 c (by omega) (by omega) (by omega) (by omega)), fun g hg => ?_, fun i hi => ?_, fun i hi => ?_, by rw [h4 1000000 (by omega) (by omega) (by omega) (by omega)]; exact a6, by rw [h4 1000001 (by omega) (by omega) (by omega) (by omega)]; exact a7⟩
  · by_cases c : g = f
    · rw [c]
      exact ⟨(hW.cgT (fun i hi => (h1 i hi).1)).cgY (w1 X), (hW.cgT (fun i hi => (h1 i hi).2)).cgY (w1 S)⟩
    · rw [h4 (201 + g) (by omega) (by omega) (by omega) (by omega), h4 (204 + g) (by omega) (by omega) (by omega) (by omega)]
      exact ⟨(a3 g hg).1.cgY (fun m hm => w2 X g m hm c), (a3 g hg).2.cgY (fun m hm => w2 S g m hm c)⟩
  · unfold cpf
    by_cases c : 8 * f ≤ i ∧ i < 8 * f + 8
    · rw [if_pos c]; exact (h2 i c.1 c.2).1
    · rw [if_neg c, (h3 i (by omega)).1]; exact a4 i hi
  · unfold cpf
    by_cases c : 8 * f ≤ i ∧ i < 8 * f + 8
    · rw [if_pos c]; exact (h2 i c.1 c.2).2
    · rw [if_neg c, (h3 i (by omega)).2]; exact a5 i hi
theorem k_sav {o : Int} (hf : f < 3) (ho : o = 0 ∨ o = 1) (hb : 1 ≤ nc ∧ 6 ≤ ns) (h : EV g0 g1 F X S X S d e)
    (hN : ∀ F1 X1 S1 d1 e1, EV g0 g1 F1 X1 S1 X1 S1 d1 e1 → L_388_1175 D (nc - 1) (ns - 6) 201 202 203 204 205 206 207 208 1 t y F1 R) :
    L_388_837 D nc ns 201 202 203 204 205 206 207 208 t y (f : Int) (201 + f) (204 + f) o F R := by
  obtain ⟨hk, hk2⟩ := kd_t hf
  have go : ∀ (F1 : MF) (X1 S1 : Nat → List Int) (d1 : Bool) (e1 : Int), EV g0 g1 F1 X1 S1 X S d1 e1 → (o = 0 → X1 = cpf S X f 8 ∧ S1 = S) → (o = 1 → X1 = X ∧ S1 = cpf X S f 8) → L_388_879 D (nc - 1) (ns - 6) 201 202 203 204 205 206 207 208 1 t y (f : Int) (201 + f) (204 + f) o F1 R := by
    intro F1 X1 S1 d1 e1 h1 ho0 ho1
    refine b_388_879 kd_201 kd_202 kd_203 kd_204 kd_205 kd_206 kd_207 kd_208 hk hk2 h1.1 ?_
    refine l_cpl (F0 := F1) hk hk2 (by omega) hf rfl ?_ 24 0 F1 rfl h1.1 (fun i hi => absurd hi (Nat.not_lt_zero i)) (fun _ _ => ⟨rfl, rfl⟩) (fun _ _ _ => rfl)
    intro F2 hS2 p1 p2
    have p7 : F2 207 = F1 207 := p2 207 (by omega) (by omega)
    have p8 : F2 208 = F1 208 := p2 208 (by omega) (by omega)
    rw [show 8 * (f : Int) = ((8 * f + 0 : Nat) : Int) by omega]
    refine l_cps (F0 := F2) hf rfl ?_ 8 0 F2 rfl hS2 (fun i hi hi2 => by omega) (fun _ _ => ⟨rfl, rfl⟩) (fun _ _ _ => rfl)
    intro F3 hS3 q1 q2 q3
    have h4 : ∀ a, a ≠ 201 + f → a ≠ 204 + f → a ≠ 207 → a ≠ 208 → F3 a = F1 a := fun a b1 b2 b3 b4 => (q3 a b3 b4).trans (p2 a b1 b2)
    have h3 : ∀ i, i < 8 * f ∨ 8 * f + 8 ≤ i → F3 207 i = F1 207 i ∧ F3 208 i = F1 208 i := fun i hi => by
      have := q2 i hi
      rw [p7, p8] at this
      exact this
    rcases ho with rfl | rfl
    · obtain ⟨rfl, rfl⟩ := ho0 rfl
      have h5 := ev_cp (F3 := F3) (n := 204 + f) hf h1 (h1.2.2.1 f hf).2 (fun i hi => by
        rw [q3 (201 + f) (by omega) (by omega), q3 (204 + f) (by omega) (by omega)]
        have := p1 i hi
        rw [if_pos rfl] at this
        exact this) (fun i hi hi2 => by
        have := q1 i hi hi2
        rw [if_pos rfl, p8, h1.2.2.2.2.1 i (by omega)] at this
        exact this) h3 h4 hS3
      rw [cpf_self] at h5
      exact hN _ _ _ _ _ h5
    · obtain ⟨rfl, rfl⟩ := ho1 rfl
      have h5 := ev_cp (F3 := F3) (n := 201 + f) hf h1 (h1.2.2.1 f hf).1 (fun i hi => by
        rw [q3 (201 + f) (by omega) (by omega), q3 (204 + f) (by omega) (by omega)]
        have := p1 i hi
        rw [if_neg (by decide)] at this
        exact this) (fun i hi hi2 => by
        have := q1 i hi hi2
        rw [if_neg (by decide), p7, h1.2.2.2.1 i (by omega)] at this
        exact this) h3 h4 hS3
      rw [cpf_self] at h5
      exact hN _ _ _ _ _ h5
  have cmp : ∀ (F1 : MF) (X1 S1 : Nat → List Int) (d1 : Bool) (e1 r : Int), r = (dif X S f 8 : Nat) → EV g0 g1 F1 X1 S1 X S d1 e1 → (o = 0 → X1 = cpf S X f 8 ∧ S1 = S) → (o = 1 → X1 = X ∧ S1 = cpf X S f 8) →
      C_207 (201 + f) 207 (204 + f) 208 (f : Int) F1 (fun r10 F7 => ((r = r10 → L_388_879 D (nc - 1) (ns - 6) 201 202 203 204 205 206 207 208 1 t y (f : Int) (201 + f) (204 + f) o F7 R) ∧ (¬ (r = r10) → L_388_879 D (nc - 1) (ns - 6) 201 202 203 204 205 206 207 208 0 t y (f : Int) (201 + f) (204 + f) o F7 R))) m_no := by
    intro F1 X1 S1 d1 e1 r hr h1 a0 a1
    refine CaI.on (s_207 (X := X) (S := S) hk kd_207 hk2 kd_208 h1.1 hf (h1.2.2.1 f hf).1 h1.2.2.2.1 (h1.2.2.1 f hf).2 h1.2.2.2.2.1) ?_
    rintro r2 F2 hS2 ⟨h2, rfl⟩
    exact ⟨fun _ => go _ _ _ _ _ h1 a0 a1, fun hne => absurd (hr.trans h2.symm) hne⟩
  refine b_388_837 kd_201 kd_202 kd_203 kd_204 kd_205 kd_206 kd_207 kd_208 hk hk2 h.1 ⟨fun h0 => ⟨hb, CaWI.on (dv_5 hf h) ?_⟩, fun h0 => ⟨hb, CaWI.on (dv_4 hf h) ?_⟩⟩
  · rintro r F1 hS1 ⟨h1, d1, h2⟩
    exact cmp F1 _ _ _ _ r h1 h2 (fun _ => ⟨rfl, rfl⟩) (fun h1 => by omega)
  · rintro r F1 hS1 ⟨h1, h2⟩
    exact cmp F1 _ _ _ _ r h1 h2 (fun h1 => by omega) (fun _ => ⟨rfl, rfl⟩)
end Mp1
