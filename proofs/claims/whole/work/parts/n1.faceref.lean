/-! THE FACE OF THE REFERENCE: what stands between two calls -/
def KR (F : MF) (X S : Nat → List Int) (N : List Int) (L : List CH) (d : Bool) (e : Int) : Prop :=
  TxM F X ∧ Rws (F 204) (F 205) S ∧ (SpM F N ∧ ∀ a ∈ N, isL a = true) ∧ F 201 4 = e ∧ PlR F L ∧ (L ≠ [] → (F 201 14 ≠ 0 ↔ d = true))
/-- what a call that only looks leaves as it was -/
def KQ (F F' : MF) : Prop := (∀ c, (c < 201 ∨ (202 ≤ c ∧ c ≤ 212) ∨ 281 ≤ c) → F' c = F c) ∧ ∀ j, (j = 4 ∨ j = 6 ∨ j = 7 ∨ j = 14) → F' 201 j = F 201 j
/-- what a call of the reference leaves as it was -/
def Rn (F F' : MF) : Prop := ∀ c, (c < 201 ∨ 281 ≤ c) → F' c = F c
section Mn1
variable {F G : MF} {X Y S : Nat → List Int} {N : List Int} {L : List CH} {d : Bool} {e : Int} {f m k : Nat} {x1 x2 x3 : Int}
theorem Rn.rf : Rn F F := fun _ _ => rfl
theorem Rn.tr {H : MF} (h : Rn F G) (k : Rn G H) : Rn F H := fun c a => (k c a).trans (h c a)
theorem fr.rn {P : Nat → Prop} (h : fr P F G) (hP : ∀ c, P c → 201 ≤ c ∧ c ≤ 280) : Rn F G := fun c hc => h c (fun e => by have := hP c e; omega)
theorem KQ.rn (h : KQ F G) : Rn F G := fun c hc => h.1 c (by omega)
theorem KQ.rf : KQ F F := ⟨fun _ _ => rfl, fun _ _ => rfl⟩
theorem KQ.tr {H : MF} (h : KQ F G) (k : KQ G H) : KQ F H := ⟨fun c a => (k.1 c a).trans (h.1 c a), fun j a => (k.2 j a).trans (h.2 j a)⟩
theorem KQ.u15 {v : Int} (h : KQ F G) : KQ F (m_up G 201 15 v) := ⟨fun c hc => by rw [up_row (by omega)]; exact h.1 c hc, fun j hj => by rw [u_ne (Or.inr (by omega))]; exact h.2 j hj⟩
theorem fr.kq {P : Nat → Prop} (h : fr P F G) (hP : ∀ c, P c → 213 ≤ c ∧ c ≤ 280) : KQ F G := ⟨fun c hc => h c (fun e => by have := hP c e; omega), fun j _ => by rw [h 201 (fun e => by have := hP 201 e; omega)]⟩
theorem LKr.kq (h : LKr F G) : KQ F G := ⟨fun c hc => h.2 c (by omega), fun j hj => h.1 j (by omega) (by omega) (by omega)⟩
theorem PF.kq (h : PFk F G) (h2 : ∀ c, (202 ≤ c ∧ c ≤ 203) → G c = F c) : KQ F G := ⟨fun c hc => by
  by_cases c1 : 202 ≤ c ∧ c ≤ 203
  · exact h2 c c1
  · exact h.1 c (by omega), fun j hj => h.2 j (by omega)⟩
theorem Oth.kq (h : Oth f F G) : KQ F G := ⟨fun c hc => h.2.2.2.2.2 c (by omega), fun j hj => h.2.2.2.2.1 j (by omega)⟩
theorem PlR.cg (h : PlR F L) (h1 : G 201 7 = F 201 7) (h2 : ∀ c, 207 ≤ c → c ≤ 212 → G c = F c) : PlR G L := by
  obtain ⟨k1, k2, k3⟩ := h
  refine ⟨by rw [h1]; exact k1, k2, fun i hi => ?_⟩
  rw [h2 207 (by omega) (by omega), h2 208 (by omega) (by omega), h2 209 (by omega) (by omega), h2 210 (by omega) (by omega), h2 211 (by omega) (by omega), h2 212 (by omega) (by omega)]
  exact k3 i hi
theorem KR.kq (h : KR F X S N L d e) (k : KQ F G) : KR G X S N L d e := by
  obtain ⟨a1, a2, ⟨⟨b1, b2, b3⟩, b4⟩, a4, a5, a6⟩ := h
  refine ⟨?_, ?_, ⟨⟨by rw [k.2 6 (by omega)]; exact b1, by rw [k.1 206 (by omega)]; exact b2, b3⟩, b4⟩, by rw [k.2 4 (by omega)]; exact a4, a5.cg (k.2 7 (by omega)) (fun c p q => k.1 c (by omega)), fun hl => by rw [k.2 14 (by omega)]; exact a6 hl⟩
  · show Rws (G 202) (G 203) X
    rw [k.1 202 (by omega), k.1 203 (by omega)]
    exact a1
  · rw [k.1 204 (by omega), k.1 205 (by omega)]
    exact a2
theorem KR.hX (h : KR F X S N L d e) : ∀ r, r < 24 → Rok (X r) := fun r hr => (h.1 r hr).2.1
theorem p_f3 : p_204 F x1 ↔ isF3 x1 := by
  constructor
  · intro h
    have : ¬ x1 < 0 ∧ ¬ 2 < x1 := h
    exact ⟨x1.toNat, by omega, by omega⟩
  · rintro ⟨f, h, rfl⟩
    show ¬ (f : Int) < 0 ∧ ¬ 2 < (f : Int)
    omega
theorem p_ln : p_205 F x1 x2 ↔ isLn x1 x2 := by
  constructor
  · intro h
    have : (¬ x1 < 0 ∧ ¬ 2 < x1) ∧ (¬ x2 < 0 ∧ ¬ 7 < x2) := h
    exact ⟨x1.toNat, x2.toNat, by omega, by omega, by omega, by omega⟩
  · rintro ⟨f, m, h1, h2, rfl, rfl⟩
    show (¬ (f : Int) < 0 ∧ ¬ 2 < (f : Int)) ∧ (¬ (m : Int) < 0 ∧ ¬ 7 < (m : Int))
    omega
theorem p_in {a b x : Int} : p_203 F x a b ↔ a ≤ x ∧ x ≤ b := by
  show (¬ x < a ∧ ¬ b < x) ↔ _
  omega
/-- all is looked at, if there is the file -/
theorem s_354 (hS : St F) (h : KR F X S N L d e) : C_354 x1 F (fun r F' => ((r = 1 ∧ (∃ f : Nat, f < 3 ∧ x1 = (f : Int)) ∧ F' 201 15 = 0 ∧ ∃ nn, LKd F' X nn) ∨ (r = 0 ∧ ¬ isF3 x1 ∧ F' 201 15 = 1)) ∧ KQ F F') m_no := by
  refine c_354 hS ⟨fun hp => ?_, fun hp => ⟨Or.inr ⟨rfl, fun c => hp (p_f3.mpr c), u_eq⟩, KQ.rf.u15⟩⟩
  have hT : TxM (m_up F 201 15 0) X := by
    show Rws (m_up F 201 15 0 202) (m_up F 201 15 0 203) X
    rw [up_row (by decide), up_row (by decide)]
    exact h.1
  refine CaV.on (s_262 (hS.fld kd_201 rk_12_15) hT) ?_
  rintro F1 hS1 ⟨r1, nn, d1⟩
  have e15 : F1 201 15 = 0 := by rw [r1.1 15 (by omega) (by omega) (by omega), u_eq]
  have hq : KQ F F1 := KQ.rf.u15.tr r1.kq
  exact ⟨fun _ => ⟨Or.inl ⟨rfl, p_f3.mp hp, e15, nn, d1⟩, hq⟩, fun c => absurd e15 c⟩
theorem s_355 (hS : St F) (h : KR F X S N L d e) : C_355 x1 x2 0 F (fun r F' => ((r = 1 ∧ (∃ f k : Nat, f < 3 ∧ k < (toks X f).length ∧ x1 = (f : Int) ∧ x2 = (k : Int)) ∧ F' 201 15 = 0 ∧ ∃ nn, LKd F' X nn) ∨ (r = 0 ∧ ¬ isTk X x1 x2 ∧ F' 201 15 = 1)) ∧ KQ F F') m_no := by
  refine c_355 hS (CaI.on (s_354 hS h) ?_)
  rintro r F1 hS1 ⟨⟨rfl, ⟨f, hf, rfl⟩, h15, nn, d1⟩ | ⟨rfl, hn, h15⟩, hq⟩
  · have lk := toks_len h.hX hf
    have ec : F1 217 f = ((toks X f).length : Int) := (d1.1.2.1 f hf).1.1
    refine ⟨fun c => absurd c (by decide), fun _ => ⟨by omega, fun _ => ?_, fun c => absurd rfl c⟩⟩
    rw [Int.toNat_natCast, ec, p_in]
    refine ⟨by omega, fun hp => ⟨Or.inl ⟨rfl, ⟨f, x2.toNat, hf, by omega, rfl, by omega⟩, u_eq, nn, ?_⟩, hq.u15⟩, fun hp => ⟨Or.inr ⟨rfl, ?_, u_eq⟩, hq.u15⟩⟩
    · exact d1.cg (fun c a b => up_row a) (u_ne (Or.inr (by decide)))
    · rintro ⟨f', k', a, b, c, c2⟩
      have e1 : f' = f := by omega
      subst e1
      omega
  · exact ⟨fun _ => ⟨fun c => by omega, fun _ => ⟨Or.inr ⟨rfl, fun ⟨f, k, a, b, c, _⟩ => hn ⟨f, a, c⟩, h15⟩, hq⟩⟩, fun c => absurd rfl c⟩
theorem s_355p (hS : St F) (h : KR F X S N L d e) : C_355 x1 x2 1 F (fun r F' => ((r = 1 ∧ (∃ f k : Nat, f < 3 ∧ k ≤ (toks X f).length ∧ x1 = (f : Int) ∧ x2 = (k : Int)) ∧ F' 201 15 = 0 ∧ ∃ nn, LKd F' X nn) ∨ (r = 0 ∧ ¬ isPl X x1 x2 ∧ F' 201 15 = 1)) ∧ KQ F F') m_no := by
  refine c_355 hS (CaI.on (s_354 hS h) ?_)
  rintro r F1 hS1 ⟨⟨rfl, ⟨f, hf, rfl⟩, h15, nn, d1⟩ | ⟨rfl, hn, h15⟩, hq⟩
  · have lk := toks_len h.hX hf
    have ec : F1 217 f = ((toks X f).length : Int) := (d1.1.2.1 f hf).1.1
    refine ⟨fun c => absurd c (by decide), fun _ => ⟨by omega, fun c => absurd c (by decide), fun _ => ?_⟩⟩
    rw [Int.toNat_natCast, ec, p_in]
    refine ⟨by omega, fun hp => ⟨Or.inl ⟨rfl, ⟨f, x2.toNat, hf, by omega, rfl, by omega⟩, u_eq, nn, ?_⟩, hq.u15⟩, fun hp => ⟨Or.inr ⟨rfl, ?_, u_eq⟩, hq.u15⟩⟩
    · exact d1.cg (fun c a b => up_row a) (u_ne (Or.inr (by decide)))
    · rintro ⟨f', k', a, b, c, c2⟩
      have e1 : f' = f := by omega
      subst e1
      omega
  · exact ⟨fun _ => ⟨fun c => by omega, fun _ => ⟨Or.inr ⟨rfl, fun ⟨f, k, a, b, c, _⟩ => hn ⟨f, a, c⟩, h15⟩, hq⟩⟩, fun c => absurd rfl c⟩
theorem s_363 (hS : St F) (h : KR F X S N L d e) : C_363 x1 x2 F (fun r F' => ((r = 1 ∧ (∃ f k : Nat, f < 3 ∧ k < (Ew X f).length ∧ x1 = (f : Int) ∧ x2 = (k : Int)) ∧ F' 201 15 = 0 ∧ ∃ nn, LKd F' X nn) ∨ (r = 0 ∧ ¬ isEr X x1 x2 ∧ F' 201 15 = 1)) ∧ KQ F F') m_no := by
  refine c_363 hS (CaI.on (s_354 hS h) ?_)
  rintro r F1 hS1 ⟨⟨rfl, ⟨f, hf, rfl⟩, h15, nn, d1⟩ | ⟨rfl, hn, h15⟩, hq⟩
  · have lk := Ew_len h.hX hf
    have ec : F1 246 f = ((Ew X f).length : Int) := (d1.1.2.2.2.2.1 f hf).2.2.1
    refine ⟨fun c => absurd c (by decide), fun _ => ⟨by omega, ?_⟩⟩
    rw [Int.toNat_natCast, ec, p_in]
    refine ⟨by omega, fun hp => ⟨Or.inl ⟨rfl, ⟨f, x2.toNat, hf, by omega, rfl, by omega⟩, u_eq, nn, ?_⟩, hq.u15⟩, fun hp => ⟨Or.inr ⟨rfl, ?_, u_eq⟩, hq.u15⟩⟩
    · exact d1.cg (fun c a b => up_row a) (u_ne (Or.inr (by decide)))
    · rintro ⟨f', k', a, b, c, c2⟩
      have e1 : f' = f := by omega
      subst e1
      omega
  · exact ⟨fun _ => ⟨fun c => by omega, fun _ => ⟨Or.inr ⟨rfl, fun ⟨f, k, a, b, c, _⟩ => hn ⟨f, a, c⟩, h15⟩, hq⟩⟩, fun c => absurd rfl c⟩
/-- modes are kept ahead of an edit, and told behind it -/
theorem s_336 (hS : St F) (hT : TxM F X) (hf : f < 3) : C_336 (f : Int) F (fun F' => (∀ i, i < 8 → F' 279 i = bi (md X f (i + 1))) ∧ (∀ c, c ≠ 201 → ¬ (213 ≤ c ∧ c ≤ 219) → c ≠ 279 → F' c = F c) ∧ ∀ j, j ≠ 23 → F' 201 j = F 201 j) m_no := by
  refine c_336 hS (CaV.on (s_217 hf hS hT) ?_)
  rintro F1 hS1 ⟨hM, hO⟩
  have key : ∀ (d i : Nat) (G : MF), i + d = 8 → St G → fr (fun c => c = 279) F1 G → (∀ j, j < i → G 279 j = bi (md X f (j + 1))) → L_336_7 (f : Int) (i : Int) G (fun F' => (∀ i, i < 8 → F' 279 i = bi (md X f (i + 1))) ∧ (∀ c, c ≠ 201 → ¬ (213 ≤ c ∧ c ≤ 219) → c ≠ 279 → F' c = F c) ∧ ∀ j, j ≠ 23 → F' 201 j = F 201 j) m_no := by
    intro d
    induction d with
    | zero =>
      intro i G hi hSG hfr hA
      obtain rfl : i = 8 := by omega
      exact b_336_7 hSG ⟨fun h => by omega, fun _ => ⟨hA, fun c p q r => by rw [hfr c r]; exact hO.2.2.2.2.2 c (by omega), fun j hj => by rw [hfr 201 (by decide)]; exact hO.2.2.2.2.1 j hj⟩⟩
    | succ d ih =>
      intro i G hi hSG hfr hA
      have em : G 218 (8 * (f : Int) + (i : Int)).toNat = bi (md X f (i + 1)) := by
        rw [show (8 * (f : Int) + (i : Int)).toNat = 8 * f + i by omega, hfr 218 (by decide)]
        exact hM.2.2.1 i (by omega)
      refine b_336_7 hSG ⟨fun _ => ⟨by omega, by omega, by omega, by omega, by rw [em]; exact bi01 _, by omega, ?_⟩, fun h => by omega⟩
      rw [em, Int.toNat_natCast]
      have := ih (i + 1) (m_up G 279 i (bi (md X f (i + 1)))) (by omega) (hSG.arr kd_279 (by decide)) (hfr.up rfl) (fun j hj => by
        by_cases c : j = i
        · rw [c, u_eq]
        · rw [u_ne (Or.inr c)]; exact hA j (by omega))
      rw [show ((i + 1 : Nat) : Int) = (i : Int) + 1 by omega] at this
      exact this
  exact key 8 0 F1 (by decide) hS1 fr.rf (fun j hj => absurd hj (Nat.not_lt_zero j))
theorem s_337 (hS : St F) (hT : TxM F Y) (hf : f < 3) (hm : m < 8) (hA : ∀ i, i < 8 → F 279 i = bi (md X f (i + 1))) : C_337 (f : Int) (m : Int) F (fun F' => F' 201 4 = (relx X Y f m : Nat) ∧ (∀ c, c < 201 ∨ (202 ≤ c ∧ c ≤ 212) ∨ 281 ≤ c → F' c = F c) ∧ ∀ j, j ≠ 4 → j ≠ 23 → F' 201 j = F 201 j) m_no := by
  refine c_337 hS (CaV.on (s_217 hf hS hT) ?_)
  rintro F1 hS1 ⟨hM, hO⟩
  have key : ∀ (d i : Nat), i + d = 8 → m ≤ i → i < 8 → relx X Y f m = (i - m) + rlx (md X f) (md Y f) d i → L_337_7 (f : Int) (m : Int) (i : Int) F1 (fun F' => F' 201 4 = (relx X Y f m : Nat) ∧ (∀ c, c < 201 ∨ (202 ≤ c ∧ c ≤ 212) ∨ 281 ≤ c → F' c = F c) ∧ ∀ j, j ≠ 4 → j ≠ 23 → F' 201 j = F 201 j) m_no := by
    intro d
    induction d with
    | zero => intro i hi _ hi8 _; omega
    | succ d ih =>
      intro i hi hmi hi8 hr
      have done : ∀ v : Int, v = (relx X Y f m : Nat) → (m_up F1 201 4 v) 201 4 = (relx X Y f m : Nat) ∧ (∀ c, c < 201 ∨ (202 ≤ c ∧ c ≤ 212) ∨ 281 ≤ c → (m_up F1 201 4 v) c = F c) ∧ ∀ j, j ≠ 4 → j ≠ 23 → (m_up F1 201 4 v) 201 j = F 201 j := fun v hv => by
        refine ⟨by rw [u_eq]; exact hv, fun c hc => ?_, fun j a b => ?_⟩
        · rw [up_row (by omega)]; exact hO.2.2.2.2.2 c (by omega)
        · rw [u_ne (Or.inr a)]; exact hO.2.2.2.2.1 j b
      have em : F1 218 (8 * (f : Int) + (i : Int)).toNat = bi (md Y f (i + 1)) := by
        rw [show (8 * (f : Int) + (i : Int)).toNat = 8 * f + i by omega]
        exact hM.2.2.1 i (by omega)
      have ek : F1 279 i = bi (md X f (i + 1)) := by rw [hO.2.2.2.2.2 279 (by omega)]; exact hA i (by omega)
      rw [rlx_succ] at hr
      refine b_337_7 hS1 ⟨fun h7 => ⟨by omega, by omega, by omega, by omega, ?_⟩, fun h7 => ?_⟩
      · rw [em, Int.toNat_natCast, ek, bi_inj]
        refine ⟨fun he => ⟨by omega, by omega, done _ ?_⟩, fun he => ⟨by omega, ?_⟩⟩
        · rw [if_pos he.symm] at hr
          omega
        · rw [if_neg (fun c => he c.symm)] at hr
          have := ih (i + 1) (by omega) (by omega) (by omega) (by omega)
          rw [show ((i + 1 : Nat) : Int) = (i : Int) + 1 by omega] at this
          exact this
      · obtain rfl : d = 0 := by omega
        have z : rlx (md X f) (md Y f) 0 (i + 1) = 0 := rfl
        rw [z] at hr
        have : relx X Y f m = i - m + 1 := by
          split at hr <;> omega
        exact ⟨by omega, by omega, done _ (by omega)⟩
  have h0 : relx X Y f m = (m - m) + rlx (md X f) (md Y f) (8 - m) m := by unfold relx; omega
  exact key (8 - m) m (by omega) (Nat.le_refl _) hm h0
/-- the plan is disturbed -/
theorem s_335 (hS : St F) (hP : F 201 7 = (L.length : Int)) : C_335 F (fun F' => (L ≠ [] → F' 201 14 = 1) ∧ (∀ c, c ≠ 201 → F' c = F c) ∧ ∀ j, j ≠ 14 → F' 201 j = F 201 j) m_no := by
  have nl : L ≠ [] → 0 < F 201 7 := fun h => by
    have := List.length_pos_iff.mpr h
    omega
  refine c_335 hS ⟨fun _ => ⟨fun _ => u_eq, fun c hc => up_row hc, fun j hj => u_ne (Or.inr hj)⟩, fun h => ⟨fun _ => ⟨fun c => absurd (nl c) h, fun c hc => up_row hc, fun j hj => u_ne (Or.inr hj)⟩, fun _ => ⟨fun c => absurd (nl c) h, fun c hc => up_row hc, fun j hj => u_ne (Or.inr hj)⟩⟩⟩
/-- behind an edit of a row: what is told -/
theorem s_335k {l : List Int} {Q : MF → Prop} (hS : St G) (h : KR F X S N L d e) (hf : f < 3) (hm : m < 8) (hY : Y = rupd X (8 * f + m) l) (hT : TxM G Y) (hA : ∀ i, i < 8 → G 279 i = bi (md X f (i + 1)))
    (hk : ∀ c, (c < 201 ∨ (204 ≤ c ∧ c ≤ 212) ∨ 281 ≤ c) → G c = F c) (hk2 : ∀ j, (j = 6 ∨ j = 7 ∨ j = 14) → G 201 j = F 201 j) (h15 : G 201 15 = 0)
    (hQ : ∀ F', St F' → KR F' Y S N L true (relx X Y f m : Nat) → F' 201 15 = 0 → Rn F F' → TxM F' Y → Q F') : C_335 G (fun F5 => C_337 (f : Int) (m : Int) F5 Q m_no) m_no := by
  obtain ⟨a1, a2, ⟨⟨b1, b2, b3⟩, b4⟩, a4, a5, a6⟩ := h
  refine CaV.on (s_335 (L := L) hS (by rw [hk2 7 (by omega)]; exact a5.1)) ?_
  rintro F1 hS1 ⟨u1, u2, u3⟩
  have hT1 : TxM F1 Y := by
    show Rws (F1 202) (F1 203) Y
    rw [u2 202 (by decide), u2 203 (by decide)]
    exact hT
  refine CaV.on (s_337 (X := X) hS1 hT1 hf hm (fun i hi => by rw [u2 279 (by decide)]; exact hA i hi)) ?_
  rintro F2 hS2 ⟨v1, v2, v3⟩
  have hT2 : TxM F2 Y := by
    show Rws (F2 202) (F2 203) Y
    rw [v2 202 (by omega), v2 203 (by omega)]
    exact hT1
  have hc : ∀ c, (c < 201 ∨ (204 ≤ c ∧ c ≤ 212) ∨ 281 ≤ c) → F2 c = F c := fun c hc => by rw [v2 c (by omega), u2 c (by omega), hk c hc]
  refine hQ F2 hS2 ⟨hT2, by rw [hc 204 (by omega), hc 205 (by omega)]; exact a2, ⟨⟨by rw [v3 6 (by omega) (by omega), u3 6 (by omega), hk2 6 (by omega)]; exact b1, by rw [hc 206 (by omega)]; exact b2, b3⟩, b4⟩, v1, a5.cg (by rw [v3 7 (by omega) (by omega), u3 7 (by omega), hk2 7 (by omega)]) (fun c p q => hc c (by omega)), fun hl => ?_⟩ (by rw [v3 15 (by omega) (by omega), u3 15 (by omega)]; exact h15) (fun c h => hc c (by omega)) hT2
  rw [v3 14 (by omega) (by omega), u1 hl]
  exact ⟨fun _ => rfl, fun _ => by decide⟩
end Mn1
