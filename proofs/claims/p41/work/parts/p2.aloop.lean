/-! EDITS: the loop, and the whole of areEdits -/
section Mp2
variable {D : Nat → Prop} {nc ns n m k f q : Nat} {F F1 G : MF} {g0 g1 : Nat → Int} {X S Y Z W X1 S1 : Nat → List Int} {d d1 : Bool} {e e1 t B : Int} {R : Int → MF → Prop}
theorem a_243 {y : Nat} (hf : f < 3) (hm : m < 8) (hb : 1 ≤ nc ∧ 6 ≤ ns) (hB : BS B (fun i => md X f (i + 1)) 8) (h : EV g0 g1 F X S X S d e) (hy : y < 2147483648)
    (hN : ∀ F1 X1 S1 d1 e1, EV g0 g1 F1 X1 S1 X1 S1 d1 e1 → L_388_1175 D (nc - 1) (ns - 6) 201 202 203 204 205 206 207 208 1 t (y : Int) F1 R) (hq : q ≤ (X (8 * f + m)).length) :
    L_388_243 D nc ns 201 202 203 204 205 206 207 208 t (y : Int) (f : Int) (m : Int) (201 + f) ((8 * f + m : Nat) : Int) B (q : Int) F R := by
  have key : ∀ c : Int, 32 ≤ c ∧ c ≤ 126 → L_388_422 D nc ns 201 202 203 204 205 206 207 208 t (y : Int) (f : Int) (m : Int) (201 + f) ((8 * f + m : Nat) : Int) B (q : Int) c F R := fun c hc => k_ins hf hm hb hB h hN hq hc
  refine b_388_243 kd_201 kd_202 kd_203 kd_204 kd_205 kd_206 kd_207 kd_208 (kd_t hf).1 h.1 ⟨⟨by omega, by omega, by decide⟩, ⟨by omega, by decide⟩, ?_⟩
  repeat (refine ⟨fun _ => key _ (by decide), fun _ => ?_⟩)
  exact ⟨⟨by omega, by omega, by decide⟩, ⟨by omega, by decide⟩, ⟨by omega, by omega⟩, key _ ⟨by omega, by omega⟩⟩
theorem a_203 {y kd : Nat} (hf : f < 3) (hm : m < 8) (hb : 1 ≤ nc ∧ 6 ≤ ns) (hB : BS B (fun i => md X f (i + 1)) 8) (h : EV g0 g1 F X S X S d e) (hy : y < 2147483648)
    (hN : ∀ F1 X1 S1 d1 e1, EV g0 g1 F1 X1 S1 X1 S1 d1 e1 → L_388_1175 D (nc - 1) (ns - 6) 201 202 203 204 205 206 207 208 1 t (y : Int) F1 R) :
    L_388_203 D nc ns 201 202 203 204 205 206 207 208 t (kd : Int) (y : Int) (f : Int) (m : Int) (201 + f) (204 + f) ((8 * f + m : Nat) : Int) B F R := by
  obtain ⟨hk, hk2⟩ := kd_t hf
  have e7 := h.len hf hm
  have e8 := h.le hf hm
  generalize hlen : (X (8 * f + m)).length = len at e7 e8
  refine b_388_203 kd_201 kd_202 kd_203 kd_204 kd_205 kd_206 kd_207 kd_208 hk hk2 h.1 ?_
  simp only [Int.toNat_natCast, e7]
  refine ⟨fun _ => ⟨⟨by omega, by omega, by decide⟩, ⟨by omega, by decide⟩, fun _ => ⟨⟨by omega, by omega, by decide⟩, ⟨by omega, by omega⟩, ⟨by omega, by omega⟩, ⟨by omega, by omega⟩, ?_⟩, fun _ => ⟨⟨by omega, by omega⟩, ?_⟩⟩, fun _ => ⟨fun _ => ⟨⟨by omega, by omega⟩, fun h0 => ?_, fun h0 => ⟨⟨by omega, by omega, by decide⟩, ⟨by omega, by omega⟩, ⟨by omega, by omega⟩, ?_⟩⟩, fun _ => ⟨fun _ => ⟨hb, ?_⟩, fun _ => ⟨fun _ => ⟨fun _ => ?_, fun _ => ?_⟩, fun _ => ⟨⟨by omega, by omega, by decide⟩, ⟨by omega, by decide⟩, fun _ => ?_, fun _ => ?_⟩⟩⟩⟩⟩
  · have e9 : (y : Int) / 72 % ((len : Int) + 1) = ((y / 72 % (len + 1) : Nat) : Int) := by
      rw [Int.natCast_emod, Int.natCast_ediv]
      rfl
    rw [e9]
    exact a_243 hf hm hb hB h hy hN (by rw [hlen]; exact Nat.le_of_lt_succ (Nat.mod_lt _ (Nat.succ_pos _)))
  · exact a_243 hf hm hb hB h hy hN (by rw [hlen]; exact Nat.le_refl _)
  · exact k_del (q := 0) hf hm hb hB h hN (by omega) (by decide)
  · have e9 : (y : Int) / 24 % (len : Int) = ((y / 24 % len : Nat) : Int) := by
      rw [Int.natCast_emod, Int.natCast_ediv]
      rfl
    rw [e9]
    have h9 : y / 24 % len < len := Nat.mod_lt _ (by omega)
    exact k_del hf hm hb hB h hN (by rw [hlen]; exact Or.inl h9) (by omega)
  · refine CaWI.on (dv_3 hf hm h) ?_
    rintro r F1 hS1 ⟨h1, d1, h2⟩
    have e10 : F1 207 (8 * f + m) = (len : Int) := by rw [h2.len hf hm, hlen]
    rw [hlen] at h1
    rw [e10]
    exact ⟨⟨by omega, by omega⟩, fun _ => k_clr hf hm hB hN h2 rfl, fun hne => absurd h1 hne⟩
  · exact k_sav hf (Or.inr rfl) hb h hN
  · exact k_sav hf (Or.inl rfl) hb h hN
  · refine b_388_1007 kd_201 kd_202 kd_203 kd_204 kd_205 kd_206 kd_207 kd_208 hk h.1 ⟨fun h0 => absurd h0 (by decide), fun _ => ⟨hb, CaWI.on (dv_2 (p := 18) hf hm (Or.inl rfl) h) ?_⟩⟩
    intro r F1 hS1 h1
    have e10 : F1 207 (8 * f + m) = (len : Int) := by
      rw [← hlen]
      rcases h1 with ⟨-, -, h2⟩ | ⟨-, -, h2⟩
      · exact h2.len hf hm
      · exact h2.len hf hm
    have fin := k_pst (o := 1) (p := 18) (t := t) (y := (y : Int)) hf hm hB hN (Or.inl ⟨rfl, rfl⟩) h1
    rw [hlen] at h1
    simp only [Int.toNat_natCast, e10]
    refine ⟨⟨by omega, by omega⟩, fun h3 => ⟨fun _ => fin, fun hne => ?_⟩, fun h3 => ⟨⟨by omega, by omega⟩, ⟨by omega, by omega⟩, fun _ => fin, fun hne => ?_⟩⟩
    · rcases h1 with ⟨a1, -, -⟩ | ⟨-, a2, -⟩
      · omega
      · exact absurd a2 hne
    · rcases h1 with ⟨-, a2, -⟩ | ⟨a1, -, -⟩
      · exact absurd a2 hne
      · omega
  · refine b_388_1007 kd_201 kd_202 kd_203 kd_204 kd_205 kd_206 kd_207 kd_208 hk h.1 ⟨fun _ => ⟨hb, CaWI.on (dv_2 (p := 19) hf hm (Or.inr rfl) h) ?_⟩, fun h0 => absurd rfl h0⟩
    intro r F1 hS1 h1
    have e10 : F1 207 (8 * f + m) = (len : Int) := by
      rw [← hlen]
      rcases h1 with ⟨-, -, h2⟩ | ⟨-, -, h2⟩
      · exact h2.len hf hm
      · exact h2.len hf hm
    have fin := k_pst (o := 0) (p := 19) (t := t) (y := (y : Int)) hf hm hB hN (Or.inr ⟨rfl, rfl⟩) h1
    rw [hlen] at h1
    simp only [Int.toNat_natCast, e10]
    refine ⟨⟨by omega, by omega⟩, fun h3 => ⟨fun _ => fin, fun hne => ?_⟩, fun h3 => ⟨⟨by omega, by omega⟩, ⟨by omega, by omega⟩, fun _ => fin, fun hne => ?_⟩⟩
    · rcases h1 with ⟨a1, -, -⟩ | ⟨-, a2, -⟩
      · omega
      · exact absurd a2 hne
    · rcases h1 with ⟨-, a2, -⟩ | ⟨a1, -, -⟩
      · exact absurd a2 hne
      · omega
theorem a_182 {y kd : Nat} (hf : f < 3) (hm : m < 8) (hb : 1 ≤ nc ∧ 6 ≤ ns) (h : EV g0 g1 F X S X S d e) (hy : y < 2147483648)
    (hN : ∀ F1 X1 S1 d1 e1, EV g0 g1 F1 X1 S1 X1 S1 d1 e1 → L_388_1175 D (nc - 1) (ns - 6) 201 202 203 204 205 206 207 208 1 t (y : Int) F1 R) :
    L_388_182 D nc ns 201 202 203 204 205 206 207 208 t (kd : Int) (y : Int) (f : Int) (m : Int) (201 + f) (204 + f) F R := by
  obtain ⟨hk, hk2⟩ := kd_t hf
  refine b_388_182 kd_201 kd_202 kd_203 kd_204 kd_205 kd_206 kd_207 kd_208 hk hk2 h.1 ⟨⟨by omega, by omega⟩, ⟨by omega, by omega⟩, CaI.on (s_209 (X := X) hk kd_207 h.1 hf (h.2.2.1 f hf).1 h.2.2.2.1) ?_⟩
  rintro r F1 hS1 ⟨h1, rfl⟩
  rw [show 8 * (f : Int) + (m : Int) = ((8 * f + m : Nat) : Int) by omega]
  exact a_203 hf hm hb h1 h hy hN
theorem a_105 {w : Nat} (hb : 1 ≤ nc ∧ 6 ≤ ns) (h : EV g0 g1 F X S X S d e) (hw : w < 2147483648)
    (hN : ∀ F1 X1 S1 d1 e1, EV g0 g1 F1 X1 S1 X1 S1 d1 e1 → L_388_1175 D (nc - 1) (ns - 6) 201 202 203 204 205 206 207 208 1 t ((w / 20 : Nat) : Int) F1 R) :
    L_388_105 D nc ns 201 202 203 204 205 206 207 208 t (w : Int) F R := by
  have e1 : (w : Int) % 20 = ((w % 20 : Nat) : Int) := by omega
  have e2 : (w : Int) / 20 = ((w / 20 : Nat) : Int) := by omega
  have e3 : (w : Int) / 20 % 3 = ((w / 20 % 3 : Nat) : Int) := by omega
  have e4 : (w : Int) / 20 / 3 % 8 = ((w / 20 / 3 % 8 : Nat) : Int) := by omega
  refine b_388_105 kd_201 kd_202 kd_203 kd_204 kd_205 kd_206 kd_207 kd_208 h.1 ⟨⟨by omega, by decide⟩, ⟨by omega, by omega, by decide⟩, ⟨by omega, by decide⟩, ⟨by omega, by omega, by decide⟩, ⟨by omega, by decide⟩, ?_⟩
  rw [e1, e3, e4, e2]
  have hm : w / 20 / 3 % 8 < 8 := Nat.mod_lt _ (by decide)
  generalize w / 20 / 3 % 8 = m at hm
  have hf : w / 20 % 3 < 3 := Nat.mod_lt _ (by decide)
  generalize w / 20 % 3 = f at hf
  have hy : w / 20 < 2147483648 := by omega
  generalize w % 20 = kd
  refine ⟨fun h0 => ?_, fun h0 => ⟨fun h1 => ?_, fun h1 => ?_⟩⟩
  · obtain rfl : f = 0 := by omega
    exact b_388_157 kd_201 kd_202 kd_203 kd_204 kd_205 kd_206 kd_207 kd_208 kd_201 h.1 ⟨fun _ => a_182 hf hm hb h hy hN, fun h0 => absurd rfl h0⟩
  · obtain rfl : f = 1 := by omega
    exact b_388_157 kd_201 kd_202 kd_203 kd_204 kd_205 kd_206 kd_207 kd_208 kd_202 h.1 ⟨fun h0 => absurd h0 (by decide), fun _ => ⟨fun _ => a_182 hf hm hb h hy hN, fun h0 => absurd rfl h0⟩⟩
  · obtain rfl : f = 2 := by omega
    exact b_388_157 kd_201 kd_202 kd_203 kd_204 kd_205 kd_206 kd_207 kd_208 kd_203 h.1 ⟨fun h0 => absurd h0 (by decide), fun _ => ⟨fun h0 => absurd h0 (by decide), fun _ => a_182 hf hm hb h hy hN⟩⟩
/-- a file looked at -/
theorem a_206 {x : Int} {g : Int} (hf : f < 3) (hg : g = (f : Int)) (hx : 0 ≤ x) (h : EV g0 g1 F X S X S d e) : C_206 g (201 + f) 207 x F (fun r F' => r = 1 ∧ EV g0 g1 F' X S X S d e) m_no := by
  subst hg
  refine CaI.on (s_206 hf (kd_t hf).1 kd_207 (by omega) (by omega) h.1 h.2.1 (h.2.2.1 f hf).1 h.2.2.2.1 hx) ?_
  rintro r F1 hS1 ⟨h1, h2, h3⟩
  exact ⟨h1, h.st hS1 h2 h3⟩
theorem a_1175 {t : Nat} {y : Int} (hy : 0 ≤ y) (ht : t < 1000) (h : EV g0 g1 F X S X S d e) (hN : ∀ F1, EV g0 g1 F1 X S X S d e → L_388_52 D nc ns 201 202 203 204 205 206 207 208 1 ((t + 1 : Nat) : Int) F1 R) :
    L_388_1175 D nc ns 201 202 203 204 205 206 207 208 1 (t : Int) y F R := by
  have nx : ∀ (r : Int) (F1 : MF), r = 1 ∧ EV g0 g1 F1 X S X S d e → ((r = 0 → (-2147483648 ≤ ((t : Int) + 1) ∧ ((t : Int) + 1) < 2147483648) ∧ L_388_52 D nc ns 201 202 203 204 205 206 207 208 0 ((t : Int) + 1) F1 R) ∧ (¬ (r = 0) → (-2147483648 ≤ ((t : Int) + 1) ∧ ((t : Int) + 1) < 2147483648) ∧ L_388_52 D nc ns 201 202 203 204 205 206 207 208 1 ((t : Int) + 1) F1 R)) := by
    rintro r F1 ⟨rfl, h1⟩
    exact ⟨fun h0 => absurd h0 (by decide), fun _ => ⟨⟨by omega, by omega⟩, hN F1 h1⟩⟩
  refine b_388_1175 kd_201 kd_202 kd_203 kd_204 kd_205 kd_206 kd_207 kd_208 h.1 ⟨fun h0 => absurd h0 (by decide), fun _ => ⟨⟨by omega, by decide⟩, fun _ => ⟨⟨by omega, by omega⟩, hN F h⟩, fun _ => ⟨⟨by omega, by omega, by decide⟩, ⟨by omega, by decide⟩, ⟨by omega, by omega, by decide⟩, ⟨by omega, by decide⟩, fun h0 => ?_, fun h0 => ⟨⟨by omega, by omega, by decide⟩, ⟨by omega, by decide⟩, fun h1 => ?_, fun h1 => ?_⟩⟩⟩⟩
  · exact CaI.on (a_206 (f := 0) (by decide) (by omega) hy h) (fun r F1 _ h2 => nx r F1 h2)
  · exact CaI.on (a_206 (f := 1) (by decide) (by omega) hy h) (fun r F1 _ h2 => nx r F1 h2)
  · exact CaI.on (a_206 (f := 2) (by decide) (by omega) hy h) (fun r F1 _ h2 => nx r F1 h2)
theorem a_1251 (h : EV g0 g1 F X S X S d e) (hR : ∀ F1, F1 1000000 = g0 ∧ F1 1000001 = g1 → R 1 F1) : L_388_1251 D nc ns 201 202 203 207 1 F R := by
  refine b_388_1251 kd_201 kd_202 kd_203 kd_207 h.1 ⟨fun h0 => absurd h0 (by decide), fun _ => CaI.on (a_206 (f := 0) (by decide) rfl (by decide) h) ?_⟩
  rintro r F1 hS1 ⟨rfl, h1⟩
  refine ⟨fun h0 => absurd h0 (by decide), fun _ => CaI.on (a_206 (f := 1) (by decide) rfl (by decide) h1) ?_⟩
  rintro r F2 hS2 ⟨rfl, h2⟩
  refine ⟨fun h0 => absurd h0 (by decide), fun _ => CaI.on (a_206 (f := 2) (by decide) rfl (by decide) h2) ?_⟩
  rintro r F3 hS3 ⟨rfl, h3⟩
  exact ⟨fun h0 => absurd h0 (by decide), fun _ => hR F3 h3.2.2.2.2.2⟩
theorem sq_le {t : Nat} (ht : t ≤ 130) : (44017 * (t : Int)) * (t : Int) ≤ 743887300 ∧ 0 ≤ (44017 * (t : Int)) * (t : Int) := by
  have h1 : 44017 * t * t ≤ 44017 * 130 * 130 := Nat.mul_le_mul (Nat.mul_le_mul (Nat.le_refl _) ht) ht
  have h2 : (44017 * (t : Int)) * (t : Int) = ((44017 * t * t : Nat) : Int) := by
    rw [Int.natCast_mul, Int.natCast_mul]
    rfl
  rw [h2]
  omega
theorem a_52 (hR : ∀ F1, F1 1000000 = g0 ∧ F1 1000001 = g1 → R 1 F1) : ∀ (dd t nc ns : Nat) (F : MF) (X S : Nat → List Int) (d : Bool) (e : Int), t + dd = 130 → dd ≤ nc → 6 * dd ≤ ns → EV g0 g1 F X S X S d e →
    L_388_52 D nc ns 201 202 203 204 205 206 207 208 1 (t : Int) F R := by
  intro dd
  induction dd with
  | zero =>
    intro t nc ns F X S d e ht h1 h2 h
    exact b_388_52 kd_201 kd_202 kd_203 kd_204 kd_205 kd_206 kd_207 kd_208 h.1 ⟨fun h3 => by omega, fun _ => a_1251 h hR⟩
  | succ dd ih =>
    intro t nc ns F X S d e ht h1 h2 h
    have go : ∀ x : Int, 0 ≤ x ∧ x < 2147483648 → L_388_105 D nc ns 201 202 203 204 205 206 207 208 (t : Int) x F R := by
      intro x hx
      obtain ⟨w, rfl⟩ : ∃ w : Nat, x = (w : Int) := ⟨x.toNat, by omega⟩
      exact a_105 ⟨by omega, by omega⟩ h (by omega) (fun F1 X1 S1 d1 e1 h3 => a_1175 (by omega) (by omega) h3 (fun F2 h4 => ih (t + 1) _ _ F2 X1 S1 d1 e1 (by omega) (by omega) (by omega) h4))
    obtain ⟨q1, q2⟩ := sq_le (t := t) (by omega)
    have go2 := go _ (and31 ((((44017 * (t : Int)) * (t : Int)) + (8009 * (t : Int))) + 37))
    exact b_388_52 kd_201 kd_202 kd_203 kd_204 kd_205 kd_206 kd_207 kd_208 h.1 ⟨fun _ => ⟨fun h3 => absurd h3 (by decide), fun _ => ⟨fun h3 => ⟨⟨by omega, h3⟩, go _ (and31 _)⟩, fun _ => ⟨⟨by omega, by omega⟩, ⟨by omega, by omega⟩, ⟨by omega, by omega⟩, ⟨by omega, by omega⟩, ⟨by omega, by omega⟩, go2⟩⟩⟩, fun h3 => by omega⟩
end Mp2
