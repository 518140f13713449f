/-! CALLS THAT CHANGE SOMETHING, OF THE CLASS: saved files, the name, plans -/
def xSv (X S : Nat → List Int) (x : Int) : Nat → List Int := cpf X S x.toNat 8
def vSv (X S : Nat → List Int) (x : Int) : Int := (dif X S x.toNat 8 : Nat)
noncomputable def kSp (N : List Int) (c : Int) : Int := pif (97 ≤ c ∧ c ≤ 122) (pif (N.length < 6) 0 2) 1
noncomputable def kPl (X : Nat → List Int) (L : List CH) (x y : Int) : Int := pif (isTk X x y) (pif (L.length < 3) 0 2) 1
noncomputable def kMo (X : Nat → List Int) (L : List CH) (x y z : Int) : Int := pif (isTk X x y ∧ isF3 z) (pif (x = z) 2 (pif (L.length < 3) 0 3)) 1
def dPl (L : List CH) (d : Bool) : Bool := if L = [] then false else d
noncomputable def vRe (X : Nat → List Int) (L : List CH) (d : Bool) : Int := if L = [] then 0 else if d = true then 1 else (plw L X).1
noncomputable def kCa (X : Nat → List Int) (L : List CH) (d : Bool) : Int := pif (L ≠ [] ∧ vRe X L d = 0) 0 1
section Mn8
variable {F F0 G : MF} {X Y S : Nat → List Int} {N : List Int} {L : List CH} {d : Bool} {e : Int} {f m k n q o : Nat} {x1 x2 x3 x4 : Int}
theorem dif_0 : ∀ k, dif X Y f k = 0 → cpf X Y f k = Y
  | 0, _ => funext fun r => if_neg (by omega)
  | k + 1, h => by
    have h1 : dif X Y f k + (if X (8 * f + k) = Y (8 * f + k) then 0 else 1) = 0 := h
    by_cases c : X (8 * f + k) = Y (8 * f + k)
    · rw [if_pos c] at h1
      have ih := dif_0 k (by omega)
      rw [← cpf_step, ih]
      funext r
      by_cases c2 : r = 8 * f + k
      · rw [c2, upd_eq, c]
      · rw [upd_ne c2]
    · rw [if_neg c] at h1
      omega
theorem dif_sym : ∀ k, dif X Y f k = dif Y X f k
  | 0 => rfl
  | k + 1 => by
    show dif X Y f k + (if X (8 * f + k) = Y (8 * f + k) then 0 else 1) = dif Y X f k + (if Y (8 * f + k) = X (8 * f + k) then 0 else 1)
    rw [dif_sym k]
    by_cases c : X (8 * f + k) = Y (8 * f + k)
    · rw [if_pos c, if_pos c.symm]
    · rw [if_neg c, if_neg (fun h => c h.symm)]
theorem f_145 (hS : St F) (h : KC F X S N L d e) : C_145 x1 F (EOk F (pif (isF3 x1) 0 1) (vSv X S x1) X (xSv X S x1) N L d e) (ET F (pif (isF3 x1) 0 1) (fun t => (t : Int) + 1) X S N L d e) := by
  refine c_145 hS (s_179 hS (fun f hf e1 => ?_) (fun hn => ⟨by rw [pif_0 hn]; rfl, h, Cn.rf⟩))
  subst e1
  refine CaI.on (s_190 (n := 2) (n1 := 80) (by decide) (by decide) (by decide) hf hS h.1 h.2.1) ?_
  rintro r F1 hS1 ⟨rfl, u1, u2⟩
  obtain ⟨a1, a2, a3, a4, ⟨b1, b2, b3, b4⟩, a6, a7, a8⟩ := h
  have hc : ∀ c, ¬ (81 ≤ c ∧ c ≤ 83) → F1 c = F c := fun c hc => u2 c (by omega)
  refine ⟨pif_1 ⟨f, hf, rfl⟩, by simp only [vSv, Int.toNat_natCast], ⟨?_, by simp only [xSv, Int.toNat_natCast]; exact u1, fun g hg k hk => by rw [hc _ (by omega)]; exact a3 g hg k hk, fun h6 => ?_, ⟨by rw [hc 0 (by omega)]; exact b1, by rw [hc 200 (by omega)]; exact b2, b3, b4⟩, by rw [hc 0 (by omega)]; exact a6, a7.cg (by rw [hc 109 (by omega)]) (fun c p q => hc c (by omega)), fun hl => by rw [hc 109 (by omega)]; exact a8 hl⟩, fun c p => hc c (by omega)⟩
  · show Rws (F1 3) (F1 4) X
    rw [hc 3 (by omega), hc 4 (by omega)]
    exact a1
  · have hd := a4 (by rw [← hc 1 (by omega)]; exact h6)
    have hf : fr (fun c => 80 ≤ c) F F1 := fun c p => hc c (by omega)
    exact ⟨hd.1.fr hf (fun c p => by omega), fun id hid => by show F1 8 id = _; rw [hc 8 (by omega)]; exact hd.2 id hid⟩
theorem f_146 (hS : St F) (h : KC F X S N L d e) : C_146 x1 F (EOk F (pif (isF3 x1) 0 1) (vSv S X x1) (xSv S X x1) S N L (if vSv S X x1 = 0 then d else true) e) (ET F (pif (isF3 x1) 0 1) (fun t => (t : Int) + 1) X S N L d e) := by
  refine c_146 hS (s_179 hS (fun f hf e1 => ?_) (fun hn => ⟨by rw [pif_0 hn]; rfl, h, Cn.rf⟩))
  subst e1
  have h0 := h
  refine CaI.on (s_190 (n := 80) (n1 := 2) (by decide) (by decide) (by decide) hf hS h.2.1 h.1) ?_
  rintro r F1 hS1 ⟨rfl, u1, u2⟩
  have hc : ∀ c, ¬ (3 ≤ c ∧ c ≤ 5) → F1 c = F c := fun c hc => u2 c (by omega)
  have ev : vSv S X (f : Int) = ((dif S X f 8 : Nat) : Int) := by simp only [vSv, Int.toNat_natCast]
  have ex : xSv S X (f : Int) = cpf S X f 8 := by simp only [xSv, Int.toNat_natCast]
  obtain ⟨a1, a2, a3, a4, ⟨b1, b2, b3, b4⟩, a6, a7, a8⟩ := h
  rw [ev, ex]
  refine ⟨fun hp => ?_, fun hp => ?_⟩
  · refine c_34 hS1 ?_
    obtain ⟨F2, eF2⟩ : ∃ F2, F2 = m_up F1 109 8 1 := ⟨_, rfl⟩
    rw [← eF2]
    have hS2 : St F2 := by rw [eF2]; exact hS1.fld kd_109 rk_3_8
    have hk2 : ∀ c, c ≠ 109 → F2 c = F1 c := fun c hc => by rw [eF2]; exact up_row hc
    have k8 : F2 109 8 = 1 := by rw [eF2, u_eq]
    have k9 : ∀ j, j ≠ 8 → F2 109 j = F1 109 j := fun j hj => by rw [eF2, u_ne (Or.inr hj)]
    have hL2 : LinC F2 (1 + 1) (cpf S X f 8) := by
      show Rws (F2 3) (F2 4) _
      rw [hk2 3 (by decide), hk2 4 (by decide)]
      exact u1
    refine CaV.on (s_11 (n := 1) (by decide) hS2 hL2) ?_
    rintro F3 hS3 ⟨v1, v2, v3, v4⟩
    have h3 : ∀ c, c ≠ 1 → ¬ (8 ≤ c ∧ c ≤ 79) → F3 c = F2 c := fun c p q => v3 c (by omega)
    refine ⟨pif_1 ⟨f, hf, rfl⟩, rfl, ⟨v1.1.1, ?_, fun g hg i hi => (v1.1.2 g hg).1.2.2.1 i hi, fun _ => v1, ⟨by rw [h3 0 (by decide) (by omega), hk2 0 (by decide), hc 0 (by omega)]; exact b1, by rw [h3 200 (by decide) (by omega), hk2 200 (by decide), hc 200 (by omega)]; exact b2, b3, b4⟩, by rw [h3 0 (by decide) (by omega), hk2 0 (by decide), hc 0 (by omega)]; exact a6, a7.cg (by rw [h3 109 (by decide) (by omega), k9 7 (by decide), hc 109 (by omega)]) (fun c p q => by rw [h3 c (by omega) (by omega), hk2 c (by omega), hc c (by omega)]), fun hl => ?_⟩, fun c p => by rw [h3 c (by omega) (by omega), hk2 c (by omega), hc c (by omega)]⟩
    · show Rws (F3 81) (F3 82) S
      rw [h3 81 (by decide) (by omega), h3 82 (by decide) (by omega), hk2 81 (by decide), hk2 82 (by decide), hc 81 (by omega), hc 82 (by omega)]
      exact a2
    · rw [if_neg (by omega), h3 109 (by decide) (by omega), k8]
      exact ⟨fun _ => rfl, fun _ => by decide⟩
  · have hz : dif S X f 8 = 0 := by omega
    have e0 := dif_0 8 hz
    have kp : KP F F1 → True := fun _ => trivial
    rw [e0] at u1 ⊢
    rw [if_pos (by omega)]
    refine ⟨pif_1 ⟨f, hf, rfl⟩, rfl, ⟨u1, ?_, fun g hg k hk => by rw [hc _ (by omega)]; exact a3 g hg k hk, fun h6 => ?_, ⟨by rw [hc 0 (by omega)]; exact b1, by rw [hc 200 (by omega)]; exact b2, b3, b4⟩, by rw [hc 0 (by omega)]; exact a6, a7.cg (by rw [hc 109 (by omega)]) (fun c p q => hc c (by omega)), fun hl => by rw [hc 109 (by omega)]; exact a8 hl⟩, fun c p => hc c (by omega)⟩
    · show Rws (F1 81) (F1 82) S
      rw [hc 81 (by omega), hc 82 (by omega)]
      exact a2
    · have hd := a4 (by rw [← hc 1 (by omega)]; exact h6)
      refine ⟨⟨u1, fun g hg => ?_⟩, fun id hid => by show F1 8 id = _; rw [hc 8 (by omega)]; exact hd.2 id hid⟩
      have hfr : fr (fun c => 3 ≤ c ∧ c ≤ 5) F F1 := fun c p => hc c p
      exact ⟨(hd.1.2 g hg).1.fr hfr (fun c p q r => by omega), (hd.1.2 g hg).2.fr hfr (fun c p q r => by omega)⟩
theorem f_168 (hS : St F) (h : KC F X S N L d e) : C_168 x1 F (EOk F (kSp N x1) (N.length + 1) X S (N ++ [x1]) L d e) (ET F (kSp N x1) (fun t => if t = 1 then 1 else if t = 2 then 2 else 99) X S N L d e) := by
  have h0 := h
  obtain ⟨a1, a2, a3, a4, ⟨b1, b2, b3, b4⟩, a6, a7, a8⟩ := h
  have bad : ¬ (97 ≤ x1 ∧ x1 ≤ 122) → ET F (kSp N x1) (fun t => if t = 1 then 1 else if t = 2 then 2 else 99) X S N L d e 1 F := fun hb => ⟨by unfold kSp; rw [pif_0 hb]; rfl, h0, Cn.rf⟩
  refine c_168 hS ⟨fun h1 => bad (by omega), fun h1 => ⟨fun h2 => bad (by omega), fun h2 => ?_⟩⟩
  rw [b1]
  refine ⟨fun h3 => ⟨by omega, by omega, by omega, ?_⟩, fun h3 => ⟨by unfold kSp; rw [pif_1 (show 97 ≤ x1 ∧ x1 ≤ 122 by omega), pif_0 (by omega)]; rfl, h0, Cn.rf⟩⟩
  rw [Int.toNat_natCast]
  obtain ⟨F2, eF2⟩ : ∃ F2, F2 = m_up (m_up F 200 N.length x1) 0 8 ((N.length : Int) + 1) := ⟨_, rfl⟩
  rw [← eF2]
  have hc : ∀ c, c ≠ 0 → c ≠ 200 → F2 c = F c := fun c p q => by rw [eF2, up_row p, up_row q]
  have k8 : F2 0 8 = (N.length : Int) + 1 := by rw [eF2, u_eq]
  have k9 : F2 0 9 = F 0 9 := by rw [eF2, u_ne (Or.inr (by decide)), up_row (by decide)]
  have kn : F2 200 = m_up F 200 N.length x1 200 := by rw [eF2, up_row (by decide)]
  refine ⟨by unfold kSp; rw [pif_1 (show 97 ≤ x1 ∧ x1 ≤ 122 by omega), pif_1 (by omega)], rfl, ⟨?_, ?_, fun g hg k hk => by rw [hc _ (by omega) (by omega)]; exact a3 g hg k hk, fun h6 => ?_, ⟨by rw [k8, List.length_append, List.length_singleton]; omega, by rw [kn]; exact b2.up, by rw [List.length_append, List.length_singleton]; omega, fun a ha => ?_⟩, by rw [k9]; exact a6, a7.cg (by rw [hc 109 (by decide) (by decide)]) (fun c p q => hc c (by omega) (by omega)), fun hl => by rw [hc 109 (by decide) (by decide)]; exact a8 hl⟩, fun c p => hc c (by omega) (by omega)⟩
  · show Rws (F2 3) (F2 4) X
    rw [hc 3 (by decide) (by decide), hc 4 (by decide) (by decide)]
    exact a1
  · show Rws (F2 81) (F2 82) S
    rw [hc 81 (by decide) (by decide), hc 82 (by decide) (by decide)]
    exact a2
  · have hd := a4 (by rw [← hc 1 (by decide) (by decide)]; exact h6)
    have hf : fr (fun c => c = 0 ∨ c = 200) F F2 := fun c p => hc c (by omega) (by omega)
    exact ⟨hd.1.fr hf (fun c p => by omega), fun id hid => by show F2 8 id = _; rw [hc 8 (by decide) (by decide)]; exact hd.2 id hid⟩
  · rcases List.mem_append.mp ha with c | c
    · exact b4 a c
    · rw [List.mem_singleton.mp c]
      exact decide_eq_true (by omega)
theorem f_169 (hS : St F) (h : KC F X S N L d e) : C_169 F (fun r F' => r = (N.length : Int) ∧ KC F' X S [] L d e ∧ Cn F F') m_no := by
  obtain ⟨a1, a2, a3, a4, ⟨b1, b2, b3, b4⟩, a6, a7, a8⟩ := h
  refine c_169 hS ?_
  have hc : ∀ c, c ≠ 0 → (m_up F 0 8 0) c = F c := fun c p => up_row p
  refine ⟨b1, ⟨?_, ?_, fun g hg k hk => by rw [hc _ (by omega)]; exact a3 g hg k hk, fun h6 => ?_, ⟨u_eq, AL.nil, by decide, fun a ha => absurd ha (List.not_mem_nil)⟩, by rw [u_ne (Or.inr (by decide))]; exact a6, a7.cg (by rw [hc 109 (by decide)]) (fun c p q => hc c (by omega)), fun hl => by rw [hc 109 (by decide)]; exact a8 hl⟩, fun c p => hc c (by omega)⟩
  · show Rws (m_up F 0 8 0 3) (m_up F 0 8 0 4) X
    rw [hc 3 (by decide), hc 4 (by decide)]
    exact a1
  · show Rws (m_up F 0 8 0 81) (m_up F 0 8 0 82) S
    rw [hc 81 (by decide), hc 82 (by decide)]
    exact a2
  · have hd := a4 (by rw [← hc 1 (by decide)]; exact h6)
    have hf : fr (fun c => c = 0) F (m_up F 0 8 0) := fun c p => hc c p
    exact ⟨hd.1.fr hf (fun c p => by omega), fun id hid => by show m_up F 0 8 0 8 id = _; rw [hc 8 (by decide)]; exact hd.2 id hid⟩
/-- a change of the plan alone -/
theorem KC.pl {L' : List CH} {d' : Bool} (h : KC F X S N L d e) (hc : ∀ c, c ≠ 109 → ¬ (189 ≤ c ∧ c ≤ 194) → G c = F c) (hP : PlC G L') (hd : L' ≠ [] → (G 109 8 ≠ 0 ↔ d' = true)) : KC G X S N L' d' e := by
  obtain ⟨a1, a2, a3, a4, ⟨b1, b2, b3, b4⟩, a6, a7, a8⟩ := h
  refine ⟨?_, ?_, fun g hg k hk => by rw [hc _ (by omega) (by omega)]; exact a3 g hg k hk, fun h6 => ?_, ⟨by rw [hc 0 (by decide) (by omega)]; exact b1, by rw [hc 200 (by decide) (by omega)]; exact b2, b3, b4⟩, by rw [hc 0 (by decide) (by omega)]; exact a6, hP, hd⟩
  · show Rws (G 3) (G 4) X
    rw [hc 3 (by decide) (by omega), hc 4 (by decide) (by omega)]
    exact a1
  · show Rws (G 81) (G 82) S
    rw [hc 81 (by decide) (by omega), hc 82 (by decide) (by omega)]
    exact a2
  · have hd := a4 (by rw [← hc 1 (by decide) (by omega)]; exact h6)
    have hf : fr (fun c => 109 ≤ c) F G := fun c p => hc c (by omega) (by omega)
    exact ⟨hd.1.fr hf (fun c p => by omega), fun id hid => by show G 8 id = _; rw [hc 8 (by decide) (by omega)]; exact hd.2 id hid⟩
/-- a change is written down -/
theorem s_36 {c : CH} {x4 : Int} {Q : Int → MF → Prop} (hS : St F) (hP : PlC F L) (hd : L ≠ [] → (F 109 8 ≠ 0 ↔ d = true)) (hl : L.length < 3) (hc : c.1 ≤ 2 ∧ c.2.1 < 3 ∧ c.2.2.1 < 200) (h4 : c.1 = 2 → x4 = (c.2.2.2.1 : Int))
    (hQ : ∀ F', St F' → F' 109 7 = ((L.length + 1 : Nat) : Int) → (∀ c, c ≠ 109 → c ≠ 189 → c ≠ 190 → c ≠ 191 → c ≠ 192 → c ≠ 194 → F' c = F c) → (F' 109 8 ≠ 0 ↔ dPl L d = true) → F' 189 L.length = (c.1 : Int) → F' 190 L.length = (c.2.1 : Int) → F' 191 L.length = (c.2.2.1 : Int) → F' 192 L.length = x4 → F' 194 L.length = 0 →
      (∀ q i, i ≠ L.length → q = 189 ∨ q = 190 ∨ q = 191 ∨ q = 192 ∨ q = 194 → F' q i = F q i) → Q ((L.length : Int) + 1) F') :
    C_36 (c.1 : Int) (c.2.1 : Int) (c.2.2.1 : Int) x4 F Q m_no := by
  have hn : L = [] ↔ F 109 7 = 0 := by
    rw [hP.1]
    constructor
    · intro h; rw [h]; rfl
    · intro h; exact List.length_eq_zero_iff.mp (by omega)
  have st : ∀ H : MF, St H → H 109 7 = (L.length : Int) → (∀ c, c ≠ 109 → H c = F c) → (H 109 8 ≠ 0 ↔ dPl L d = true) → L_36_12 (c.1 : Int) (c.2.1 : Int) (c.2.2.1 : Int) x4 H Q m_no := fun H hSH h7 hH h8 => by
    refine b_36_12 hSH ?_
    rw [h7, Int.toNat_natCast]
    obtain ⟨H2, eH2⟩ : ∃ H2, H2 = m_up (m_up (m_up (m_up (m_up (m_up H 189 L.length (c.1 : Int)) 190 L.length (c.2.1 : Int)) 191 L.length (c.2.2.1 : Int)) 192 L.length x4) 194 L.length 0) 109 7 ((L.length : Int) + 1) := ⟨_, rfl⟩
    rw [← eH2]
    have s1 : St (m_up (m_up (m_up (m_up (m_up H 189 L.length (c.1 : Int)) 190 L.length (c.2.1 : Int)) 191 L.length (c.2.2.1 : Int)) 192 L.length x4) 194 L.length 0) := ((((hSH.arr kd_189 (by decide)).arr kd_190 (by decide)).arr kd_191 (by decide)).arr kd_192 (by decide)).arr kd_194 (by decide)
    have hS2 : St H2 := by rw [eH2]; exact s1.fld kd_109 rk_3_7
    refine ⟨fun _ => ⟨by omega, by omega, by omega, by omega, by omega, by omega, hQ H2 hS2 (by rw [eH2, u_eq]; omega) (fun c p1 p2 p3 p4 p5 p6 => by rw [eH2, up_row p1, up_row p6, up_row p5, up_row p4, up_row p3, up_row p2]; exact hH c p1) ?_ ?_ ?_ ?_ ?_ ?_ ?_⟩, fun h => by omega⟩
    · rw [eH2, u_ne (Or.inr (by decide)), up_row (by decide), up_row (by decide), up_row (by decide), up_row (by decide), up_row (by decide)]
      exact h8
    · rw [eH2, up_row (by decide), up_row (by decide), up_row (by decide), up_row (by decide), up_row (by decide), u_eq]
    · rw [eH2, up_row (by decide), up_row (by decide), up_row (by decide), up_row (by decide), u_eq]
    · rw [eH2, up_row (by decide), up_row (by decide), up_row (by decide), u_eq]
    · rw [eH2, up_row (by decide), up_row (by decide), u_eq]
    · rw [eH2, up_row (by decide), u_eq]
    · intro q i hi hq
      rw [eH2, u_ne (Or.inl (by omega)), u_ne (Or.inr hi), u_ne (Or.inr hi), u_ne (Or.inr hi), u_ne (Or.inr hi), u_ne (Or.inr hi), hH q (by omega)]
  refine c_36 hS ⟨fun h0 => st _ (hS.fld kd_109 rk_3_8) (by rw [u_ne (Or.inr (by decide))]; exact hP.1) (fun c hc => up_row hc) ?_, fun h0 => st F hS hP.1 (fun _ _ => rfl) ?_⟩
  · unfold dPl
    rw [if_pos (hn.mpr h0), u_eq]
    exact ⟨fun h => absurd rfl h, fun h => absurd h (by decide)⟩
  · unfold dPl
    rw [if_neg (fun h => h0 (hn.mp h))]
    exact hd (fun h => h0 (hn.mp h))
/-- what the plan then is -/
theorem pl_snoc {c : CH} (hP : PlC F L) (hl : L.length < 3) (hc : CHok c) (h7 : G 109 7 = ((L.length + 1 : Nat) : Int)) (h189 : G 189 L.length = (c.1 : Int)) (h190 : G 190 L.length = (c.2.1 : Int)) (h191 : G 191 L.length = (c.2.2.1 : Int)) (h192 : c.1 = 2 → G 192 L.length = (c.2.2.2.1 : Int))
    (h194 : c.1 = 0 → G 194 L.length = (c.2.2.2.2.length : Int) ∧ ∀ j, j < c.2.2.2.2.length → G 193 (6 * L.length + j) = gx c.2.2.2.2 j) (hk : ∀ q i, i < L.length → q = 189 ∨ q = 190 ∨ q = 191 ∨ q = 192 ∨ q = 194 → G q i = F q i) (hk3 : ∀ i, i < 6 * L.length → G 193 i = F 193 i) : PlC G (L ++ [c]) := by
  obtain ⟨k1, k2, k3⟩ := hP
  have hlen : (L ++ [c]).length = L.length + 1 := by rw [List.length_append, List.length_singleton]
  refine ⟨by rw [h7, hlen], by omega, fun i hi => ?_⟩
  by_cases ci : i < L.length
  · have eg : (L ++ [c])[i]'hi = L[i]'ci := List.getElem_append_left ci
    rw [eg]
    obtain ⟨p1, p2, p3, p4, p5, p6⟩ := k3 i ci
    rw [hk 189 i ci (by omega), hk 190 i ci (by omega), hk 191 i ci (by omega), hk 192 i ci (by omega), hk 194 i ci (by omega)]
    refine ⟨p1, p2, p3, p4, p5, fun h0 => ⟨(p6 h0).1, fun j hj => ?_⟩⟩
    have h6 : (L[i]'ci).2.2.2.2.length ≤ 6 := p1.2.2.2.2.2.1
    rw [hk3 _ (by omega)]
    exact (p6 h0).2 j hj
  · obtain rfl : i = L.length := by omega
    have eg : (L ++ [c])[L.length]'hi = c := by rw [List.getElem_append_right (Nat.le_refl _)]; simp only [Nat.sub_self, List.getElem_cons_zero]
    rw [eg]
    exact ⟨hc, h189, h190, h191, h192, h194⟩
theorem f_173 (hS : St F) (h : KC F X S N L d e) : C_173 x1 x2 F (EOk F (kPl X L x1 x2) (L.length + 1) X S N (L ++ [(1, x1.toNat, x2.toNat, 0, [])]) (dPl L d) e) (ET F (kPl X L x1 x2) (fun t => if t = 0 then 1 else if t = 2 then 2 else 99) X S N L d e) := by
  refine c_173 hS (s_182 hS h (fun F1 f k hS1 hK hD hC hf hk e1 e2 => ?_) (fun F1 _ hK hC hn => ⟨by unfold kPl; rw [pif_0 hn]; rfl, hK, hC⟩))
  subst e1
  subst e2
  have hT : isTk X (f : Int) (k : Int) := ⟨f, k, hf, hk, rfl, rfl⟩
  have lk := toks_len h.hX hf
  rw [Int.toNat_natCast, Int.toNat_natCast]
  have hP := hK.2.2.2.2.2.2.1
  refine c_186 hS1 ?_
  rw [hP.1]
  refine ⟨fun hl => c_38 hS1 ?_, fun hl => ⟨by unfold kPl; rw [pif_1 hT, pif_0 (by omega)]; rfl, hK, hC⟩⟩
  refine CaI.mono (s_36 (c := (1, f, k, 0, [])) (x4 := -1) hS1 hP hK.2.2.2.2.2.2.2 (by omega) ⟨(show (1 : Nat) ≤ 2 by decide), hf, by show k < 200; omega⟩ (fun c => absurd (show (1 : Nat) = 2 from c) (by decide)) (Q := EOk F (kPl X L (f : Int) (k : Int)) (L.length + 1) X S N (L ++ [(1, f, k, 0, [])]) (dPl L d) e) (fun F2 hS2 g7 gc g8 g189 g190 g191 g192 g194 gi => ?_)) (fun _ _ _ h => h) (fun _ _ _ h => h.elim)
  refine ⟨by unfold kPl; rw [pif_1 hT, pif_1 (by omega)], rfl, hK.pl (fun c p q => gc c p (by omega) (by omega) (by omega) (by omega) (by omega)) (pl_snoc hP (by omega) ⟨(show (1 : Nat) ≤ 2 by decide), hf, by show k < 200; omega, by show (0 : Nat) < 3; decide, fun c => absurd (show (1 : Nat) = 2 from c) (by decide), by show (0 : Nat) ≤ 6; decide, fun a ha => absurd ha (List.not_mem_nil)⟩ g7 g189 g190 g191 (fun c => absurd (show (1 : Nat) = 2 from c) (by decide)) (fun c => absurd (show (1 : Nat) = 0 from c) (by decide)) (fun q i hi hq => gi q i (by omega) hq) (fun i hi => by rw [gc 193 (by decide) (by decide) (by decide) (by decide) (by decide) (by decide)])) (fun _ => g8), fun c p => by rw [gc c (by omega) (by omega) (by omega) (by omega) (by omega) (by omega)]; exact hC c p⟩
theorem f_174 (hS : St F) (h : KC F X S N L d e) : C_174 x1 x2 x3 F (EOk F (kMo X L x1 x2 x3) (L.length + 1) X S N (L ++ [(2, x1.toNat, x2.toNat, x3.toNat, [])]) (dPl L d) e) (ET F (kMo X L x1 x2 x3) (fun t => (t : Int) + 1) X S N L d e) := by
  refine c_174 hS (s_182 hS h (fun F1 f k hS1 hK hD hC hf hk e1 e2 => ?_) (fun F1 _ hK hC hn => ⟨by unfold kMo; rw [pif_0 (fun c => hn c.1)]; rfl, hK, hC⟩))
  subst e1
  subst e2
  have hT : isTk X (f : Int) (k : Int) := ⟨f, k, hf, hk, rfl, rfl⟩
  have lk := toks_len h.hX hf
  refine s_179 hS1 (fun o ho e3 => ?_) (fun hn => ⟨by unfold kMo; rw [pif_0 (fun c => hn c.2)]; rfl, hK, hC⟩)
  subst e3
  have hTo : isTk X (f : Int) (k : Int) ∧ isF3 (o : Int) := ⟨hT, o, ho, rfl⟩
  rw [Int.toNat_natCast, Int.toNat_natCast, Int.toNat_natCast]
  have hP := hK.2.2.2.2.2.2.1
  refine ⟨fun c => ⟨by unfold kMo; rw [pif_1 hTo, pif_1 c]; rfl, hK, hC⟩, fun c => ?_⟩
  refine c_186 hS1 ?_
  rw [hP.1]
  refine ⟨fun hl => c_39 hS1 ?_, fun hl => ⟨by unfold kMo; rw [pif_1 hTo, pif_0 c, pif_0 (by omega)]; rfl, hK, hC⟩⟩
  refine CaI.mono (s_36 (c := (2, f, k, o, [])) (x4 := (o : Int)) hS1 hP hK.2.2.2.2.2.2.2 (by omega) ⟨(show (2 : Nat) ≤ 2 by decide), hf, by show k < 200; omega⟩ (fun _ => rfl) (Q := EOk F (kMo X L (f : Int) (k : Int) (o : Int)) (L.length + 1) X S N (L ++ [(2, f, k, o, [])]) (dPl L d) e) (fun F2 hS2 g7 gc g8 g189 g190 g191 g192 g194 gi => ?_)) (fun _ _ _ h => h) (fun _ _ _ h => h.elim)
  refine ⟨by unfold kMo; rw [pif_1 hTo, pif_0 c, pif_1 (by omega)], rfl, hK.pl (fun c p q => gc c p (by omega) (by omega) (by omega) (by omega) (by omega)) (pl_snoc hP (by omega) ⟨(show (2 : Nat) ≤ 2 by decide), hf, by show k < 200; omega, ho, fun _ => by show o ≠ f; omega, by show (0 : Nat) ≤ 6; decide, fun a ha => absurd ha (List.not_mem_nil)⟩ g7 g189 g190 g191 (fun _ => g192) (fun c => absurd (show (2 : Nat) = 0 from c) (by decide)) (fun q i hi hq => gi q i (by omega) hq) (fun i hi => by rw [gc 193 (by decide) (by decide) (by decide) (by decide) (by decide) (by decide)])) (fun _ => g8), fun c p => by rw [gc c (by omega) (by omega) (by omega) (by omega) (by omega) (by omega)]; exact hC c p⟩
theorem f_172 (hS : St F) (h : KC F X S N L d e) : C_172 x1 x2 F (EOk F (kPl X L x1 x2) (L.length + 1) X S N (L ++ [(0, x1.toNat, x2.toNat, 0, N)]) (dPl L d) e) (ET F (kPl X L x1 x2) (fun t => if t = 0 then 1 else if t = 2 then 2 else 99) X S N L d e) := by
  refine c_172 hS (s_182 hS h (fun F1 f k hS1 hK hD hC hf hk e1 e2 => ?_) (fun F1 _ hK hC hn => ⟨by unfold kPl; rw [pif_0 hn]; rfl, hK, hC⟩))
  subst e1
  subst e2
  have hT : isTk X (f : Int) (k : Int) := ⟨f, k, hf, hk, rfl, rfl⟩
  have lk := toks_len h.hX hf
  rw [Int.toNat_natCast, Int.toNat_natCast]
  have hP := hK.2.2.2.2.2.2.1
  obtain ⟨b1, b2, b3, b4⟩ := hK.2.2.2.2.1
  refine c_186 hS1 ?_
  rw [hP.1]
  refine ⟨fun hl => ?_, fun hl => ⟨by unfold kPl; rw [pif_1 hT, pif_0 (by omega)]; rfl, hK, hC⟩⟩
  rw [b1]
  refine c_37 kd_200 hS1 ?_
  rw [hP.1]
  refine ⟨fun _ => ⟨fun c => by omega, fun _ => ⟨fun c => by omega, fun _ => ⟨by omega, by omega, ?_⟩⟩⟩, fun c => absurd hl c⟩
  rw [Int.toNat_natCast, show ((L.length : Int) * 6).toNat = 6 * L.length by omega, show (0 : Int).toNat = 0 from rfl]
  obtain ⟨F2, eF2⟩ : ∃ F2, F2 = m_cpy F1 200 0 193 (6 * L.length) N.length := ⟨_, rfl⟩
  rw [← eF2]
  have hS2 : St F2 := by rw [eF2]; exact hS1.cpy kd_193 (by decide)
  have hc2 : ∀ c, c ≠ 193 → F2 c = F1 c := fun c hc => by rw [eF2]; exact cp_row hc
  have h193 : ∀ j, F2 193 j = if 6 * L.length ≤ j ∧ j < 6 * L.length + N.length then F1 200 (j - 6 * L.length) else F1 193 j := fun j => by
    rw [eF2]
    unfold m_cpy
    by_cases c : 6 * L.length ≤ j ∧ j < 6 * L.length + N.length
    · rw [if_pos ⟨rfl, c.1, c.2⟩, if_pos c, Nat.zero_add]
    · rw [if_neg (fun h => c h.2), if_neg c]
  have hP2 : PlC F2 L := by
    obtain ⟨k1, k2, k3⟩ := hP
    refine ⟨by rw [hc2 109 (by decide)]; exact k1, k2, fun i hi => ?_⟩
    obtain ⟨p1, p2, p3, p4, p5, p6⟩ := k3 i hi
    rw [hc2 189 (by decide), hc2 190 (by decide), hc2 191 (by decide), hc2 192 (by decide), hc2 194 (by decide)]
    refine ⟨p1, p2, p3, p4, p5, fun h0 => ⟨(p6 h0).1, fun j hj => ?_⟩⟩
    have h6 : (L[i]'hi).2.2.2.2.length ≤ 6 := p1.2.2.2.2.2.1
    rw [h193, if_neg (by omega)]
    exact (p6 h0).2 j hj
  refine CaI.mono (s_36 (c := (0, f, k, 0, N)) (x4 := -1) hS2 hP2 (d := d) (fun hl => by rw [hc2 109 (by decide)]; exact hK.2.2.2.2.2.2.2 hl) (by omega) ⟨(show (0 : Nat) ≤ 2 by decide), hf, by show k < 200; omega⟩ (fun c => absurd (show (0 : Nat) = 2 from c) (by decide)) (Q := fun r11 F8 => (-2147483648 ≤ (F8 109 7) - 1 ∧ (F8 109 7) - 1 < 2147483648) ∧ (0 ≤ ((F8 109 7) - 1) ∧ ((F8 109 7) - 1) < 3) ∧ EOk F (kPl X L (f : Int) (k : Int)) (L.length + 1) X S N (L ++ [(0, f, k, 0, N)]) (dPl L d) e (F8 109 7) (m_up F8 194 ((F8 109 7) - 1).toNat (N.length : Int))) (fun F3 hS3 g7 gc g8 g189 g190 g191 g192 g194 gi => ?_)) (fun _ _ _ h => h) (fun _ _ _ h => h.elim)
  rw [g7, show (((L.length + 1 : Nat) : Int) - 1).toNat = L.length by omega]
  have gc' : ∀ c, c ≠ 109 → ¬ (189 ≤ c ∧ c ≤ 194) → F3 c = F1 c := fun c p q => by rw [gc c p (by omega) (by omega) (by omega) (by omega) (by omega), hc2 c (by omega)]
  have e193 : (m_up F3 194 L.length (N.length : Int)) 193 = F2 193 := by rw [up_row (by decide), gc 193 (by decide) (by decide) (by decide) (by decide) (by decide) (by decide)]
  refine ⟨by omega, by omega, by unfold kPl; rw [pif_1 hT, pif_1 (by omega)], by omega, hK.pl (fun c p q => by rw [up_row (by omega)]; exact gc' c p q) (pl_snoc (F := F2) hP2 (by omega) ⟨(show (0 : Nat) ≤ 2 by decide), hf, by show k < 200; omega, by show (0 : Nat) < 3; decide, fun c => absurd (show (0 : Nat) = 2 from c) (by decide), b3, b4⟩ (by rw [up_row (by decide)]; exact g7) (by rw [up_row (by decide)]; exact g189) (by rw [up_row (by decide)]; exact g190) (by rw [up_row (by decide)]; exact g191) (fun c => absurd (show (0 : Nat) = 2 from c) (by decide)) (fun _ => ⟨u_eq, fun j hj => ?_⟩) (fun q i hi hq => by rw [u_ne (Or.inr (by omega))]; exact gi q i (by omega) hq) (fun i hi => by rw [e193])) (fun _ => by rw [up_row (by decide)]; exact g8), fun c p => ?_⟩
  · have hj2 : j < N.length := hj
    rw [e193, h193, if_pos (by omega), show 6 * L.length + j - 6 * L.length = j by omega]
    exact b2 j hj2
  · rw [up_row (by omega), gc' c (by omega) (by omega)]
    exact hC c p
theorem f_175 (hS : St F) (h : KC F X S N L d e) : C_175 F (fun r F' => r = (L.length : Int) ∧ KC F' X S N [] d e ∧ Cn F F') m_no := by
  refine c_175 hS (c_35 hS ⟨h.2.2.2.2.2.2.1.1, h.pl (fun c p q => up_row p) ⟨u_eq, by decide, fun i hi => absurd hi (Nat.not_lt_zero i)⟩ (fun c => absurd rfl c), fun c p => up_row (by omega)⟩)
theorem re_v {F : MF} (h : L ≠ [] → (F 109 8 ≠ 0 ↔ d = true)) : (if L = [] then 0 else if F 109 8 ≠ 0 then 1 else (plw L X).1) = vRe X L d := by
  unfold vRe
  by_cases c : L = []
  · rw [if_pos c, if_pos c]
  · rw [if_neg c, if_neg c]
    by_cases c2 : F 109 8 ≠ 0
    · rw [if_pos c2, if_pos ((h c).mp c2)]
    · rw [if_neg c2, if_neg (fun c3 => c2 ((h c).mpr c3))]
theorem f_176 (hS : St F) (h : KC F X S N L d e) : C_176 F (fun r F' => r = vRe X L d ∧ KC F' X S N L d e ∧ Cn F F') m_no := by
  refine c_176 hS (CaI.on (s_40 (n1 := 1) (by decide) (by decide) hS h.1 h.2.2.2.2.2.2.1) ?_)
  rintro r F1 hS1 ⟨rfl, u1, u2⟩
  exact ⟨re_v h.2.2.2.2.2.2.2, h.kp u2.kp, u2.kp.cn⟩
theorem f_177 (hS : St F) (h : KC F X S N L d e) : C_177 F (EOk F (kCa X L d) L.length (plw L X).2 S N [] d e) (ET F (kCa X L d) (fun t => if t = 2 then 1 else 99) X S N L d e) := by
  have hP := h.2.2.2.2.2.2.1
  have hn : L = [] ↔ F 109 7 = 0 := by
    rw [hP.1]
    constructor
    · intro h; rw [h]; rfl
    · intro h; exact List.length_eq_zero_iff.mp (by omega)
  refine c_177 hS ⟨fun h0 => ⟨by unfold kCa; rw [pif_0 (fun c => c.1 (hn.mpr h0))]; rfl, h, Cn.rf⟩, fun h0 => ?_⟩
  have hne : L ≠ [] := fun c => h0 (hn.mp c)
  refine CaI.mono (s_40 (n1 := 1) (by decide) (by decide) hS h.1 hP) ?_ (fun _ _ _ h => h.elim)
  rintro r F1 hS1 ⟨er, u1, u2⟩
  rw [re_v h.2.2.2.2.2.2.2] at er
  have hK1 := h.kp u2.kp
  refine ⟨fun hz => ?_, fun hz => ⟨by unfold kCa; rw [pif_0 (fun c => hz (by rw [er]; exact c.2))]; rfl, hK1, u2.kp.cn⟩⟩
  have hD := u1 hz hne
  refine CaV.mono (s_28 (n := 2) (n1 := 111) (by decide) d_i2 hS1 hD.1.1) ?_ (fun _ _ _ h => h.elim)
  rintro F2 hS2 ⟨v1, v2⟩
  refine CaV.mono (s_11 (n := 1) (by decide) hS2 v1) ?_ (fun _ _ _ h => h.elim)
  rintro F3 hS3 ⟨w1, w2, w3, w4⟩
  have hc : ∀ c, c ≠ 1 → ¬ (3 ≤ c ∧ c ≤ 4) → ¬ (8 ≤ c ∧ c ≤ 79) → F3 c = F1 c := fun c p q r => by rw [w3 c (by omega), v2 c (by omega)]
  obtain ⟨a1, a2, a3, a4, ⟨b1, b2, b3, b4⟩, a6, a7, a8⟩ := hK1
  refine c_35 hS3 ⟨?_, ?_, ?_, ?_⟩
  · unfold kCa
    rw [pif_1 ⟨hne, by rw [← er]; exact hz⟩]
  · rw [hc 109 (by decide) (by omega) (by omega)]
    exact a7.1
  · have hc4 : ∀ c, c ≠ 109 → m_up F3 109 7 0 c = F3 c := fun c p => up_row p
    refine ⟨?_, ?_, fun g hg i hi => by rw [hc4 _ (by omega)]; exact (w1.1.2 g hg).1.2.2.1 i hi, fun _ => ?_, ⟨by rw [hc4 0 (by decide), hc 0 (by decide) (by omega) (by omega)]; exact b1, by rw [hc4 200 (by decide), hc 200 (by decide) (by omega) (by omega)]; exact b2, b3, b4⟩, by rw [hc4 0 (by decide), hc 0 (by decide) (by omega) (by omega)]; exact a6, ⟨u_eq, by decide, fun i hi => absurd hi (Nat.not_lt_zero i)⟩, fun c => absurd rfl c⟩
    · show Rws (m_up F3 109 7 0 3) (m_up F3 109 7 0 4) _
      rw [hc4 3 (by decide), hc4 4 (by decide)]
      exact w1.1.1
    · show Rws (m_up F3 109 7 0 81) (m_up F3 109 7 0 82) S
      rw [hc4 81 (by decide), hc4 82 (by decide), hc 81 (by decide) (by omega) (by omega), hc 82 (by decide) (by omega) (by omega)]
      exact a2
    · have hf : fr (fun c => c = 109) F3 (m_up F3 109 7 0) := fun c p => hc4 c p
      exact ⟨w1.1.fr hf (fun c p => by omega), fun id hid => by show m_up F3 109 7 0 8 id = _; rw [hc4 8 (by decide)]; exact w1.2 id hid⟩
  · intro c p
    rw [up_row (by omega), hc c (by omega) (by omega) (by omega)]
    exact u2.kp.cn c p
end Mn8
