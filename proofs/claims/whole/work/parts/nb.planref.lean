/-! CALLS THAT CHANGE SOMETHING, OF THE REFERENCE: saved rows, the name, plans -/
section Mnb
variable {F F0 G : MF} {X Y S X' S' : Nat → List Int} {N N' l : List Int} {L L' : List CH} {d d' : Bool} {e e' : Int} {f m k n q r o : Nat} {x1 x2 x3 x4 : Int}
theorem s_347 {n0 n1 z0 z1 a b : Nat} (h0 : m_KD[n0]? = some (100, z0)) (h1 : m_KD[n1]? = some (100, z1)) (hS : St F) (hne : n0 ≠ n1) (ha : a + b ≤ z0 ∧ a + b ≤ z1 ∧ a + b < 10000) : C_347 n0 n1 (a : Int) (b : Int) F (fun F' => (∀ i, F' n1 i = if a ≤ i ∧ i < a + b then F n0 i else F n1 i) ∧ fr (fun c => c = n1) F F') m_no := by
  have key : ∀ (d i : Nat) (G : MF), i + d = a + b → a ≤ i → St G → fr (fun c => c = n1) F G → (∀ j, G n1 j = if a ≤ j ∧ j < i then F n0 j else F n1 j) → L_347_3 n0 n1 (a : Int) (b : Int) (i : Int) G (fun F' => (∀ i, F' n1 i = if a ≤ i ∧ i < a + b then F n0 i else F n1 i) ∧ fr (fun c => c = n1) F F') m_no := by
    intro d
    induction d with
    | zero =>
      intro i G hi hai hSG hfr hA
      obtain rfl : i = a + b := by omega
      exact b_347_3 h0 h1 hSG ⟨by omega, fun c => by omega, fun _ => ⟨hA, hfr⟩⟩
    | succ d ih =>
      intro i G hi hai hSG hfr hA
      refine b_347_3 h0 h1 hSG ⟨by omega, fun _ => ⟨by omega, by omega, by omega, ?_⟩, fun c => by omega⟩
      rw [Int.toNat_natCast, hfr n0 hne]
      have := ih (i + 1) (m_up G n1 i (F n0 i)) (by omega) (by omega) (hSG.arr h1 (by decide)) (hfr.up rfl) (fun j => by
        by_cases c : j = i
        · rw [c, u_eq, if_pos ⟨hai, by omega⟩]
        · rw [u_ne (Or.inr c), hA j]
          by_cases c2 : a ≤ j ∧ j < i
          · rw [if_pos c2, if_pos ⟨c2.1, by omega⟩]
          · rw [if_neg c2, if_neg (by omega)])
      rw [show ((i + 1 : Nat) : Int) = (i : Int) + 1 by omega] at this
      exact this
  exact c_347 h0 h1 hS (key b a F rfl (Nat.le_refl _) hS fr.rf (fun j => by rw [if_neg (by omega)]))
/-- how many rows are otherwise than they were saved -/
theorem s_346 (hS : St F) (hX : Rws (F 202) (F 203) X) (hY : Rws (F 204) (F 205) S) (hf : f < 3) : C_346 (f : Int) F (fun x F' => x = (dif X S f 8 : Nat) ∧ F' = F) m_no := by
  have row : ∀ (Q : Int → MF → Prop) (z k : Nat) (r : Nat), r = 8 * f + k → k < 8 → z < 100 → L_346_7 (f : Int) ((z + (if X r = S r then 0 else 1) : Nat) : Int) ((r + 1 : Nat) : Int) F Q m_no → ∀ (d j : Nat) (is : Bool), j + d = (X r).length → (is = false → X r ≠ S r) → (is = true → (X r).length = (S r).length ∧ ∀ i, i < j → gx (X r) i = gx (S r) i) → L_346_43 (f : Int) (z : Int) (r : Int) (bi is) (j : Int) F Q m_no := by
    intro Q z k r er hk hz hQ d
    have hr := hX r (by omega)
    have hs := hY r (by omega)
    have l1 := hr.2.1.1
    have fno : X r ≠ S r → L_346_7 (f : Int) ((z : Int) + 1) ((r : Int) + 1) F Q m_no := fun hn => by
      rw [if_neg hn] at hQ
      rw [show (z : Int) + 1 = ((z + 1 : Nat) : Int) by omega, show (r : Int) + 1 = ((r + 1 : Nat) : Int) by omega]
      exact hQ
    have fyes : X r = S r → L_346_7 (f : Int) ((z : Int) + 0) ((r : Int) + 1) F Q m_no := fun hn => by
      rw [if_pos hn] at hQ
      rw [show (z : Int) + 0 = ((z + 0 : Nat) : Int) by omega, show (r : Int) + 1 = ((r + 1 : Nat) : Int) by omega]
      exact hQ
    induction d with
    | zero =>
      intro j is hj h0 h1
      refine b_346_43 hS ?_
      rw [Int.toNat_natCast, hr.1]
      refine ⟨by omega, fun c => by omega, fun _ => ⟨fun c => ⟨by omega, by omega, fno (h0 (bi0.mp c))⟩, fun c => ⟨by omega, by omega, fyes ?_⟩⟩⟩
      have hi : is = true := by
        cases is with
        | true => rfl
        | false => exact absurd rfl c
      obtain ⟨h2, h3⟩ := h1 hi
      exact gx_ext h2 (fun i hi => h3 i (by omega))
    | succ d ih =>
      intro j is hj h0 h1
      have hjl : j < (X r).length := by omega
      have eg : g_206 F (r : Int) (j : Int) = gx (X r) j := by
        unfold g_206
        rw [show (24 * (r : Int) + (j : Int)).toNat = 24 * r + j by omega]
        exact hr.2.2 j hjl
      refine b_346_43 hS ?_
      rw [Int.toNat_natCast, hr.1, eg, show (24 * (r : Int) + (j : Int)).toNat = 24 * r + j by omega]
      refine ⟨by omega, fun _ => ⟨fun c => ⟨by omega, by omega, fno (h0 (bi0.mp c))⟩, fun c => ?_⟩, fun c => by omega⟩
      have hi : is = true := by
        cases is with
        | true => rfl
        | false => exact absurd rfl c
      obtain ⟨h2, h3⟩ := h1 hi
      rw [hs.2.2 j (by omega)]
      refine ⟨⟨by omega, by omega, by omega, trivial⟩, by omega, by omega, by omega, fun e => ⟨by omega, ?_⟩, fun e => ⟨by omega, ?_⟩⟩
      · have := ih (j + 1) true (by omega) (fun c => absurd c (by decide)) (fun _ => ⟨h2, fun i hi => by
          by_cases c : i = j
          · rw [c]; exact e
          · exact h3 i (by omega)⟩)
        rw [show ((j + 1 : Nat) : Int) = (j : Int) + 1 by omega] at this
        exact this
      · have := ih (j + 1) false (by omega) (fun _ h => e (by rw [h])) (fun c => absurd c (by decide))
        rw [show ((j + 1 : Nat) : Int) = (j : Int) + 1 by omega] at this
        exact this
  have key : ∀ (d k : Nat), k + d = 8 → L_346_7 (f : Int) ((dif X S f k : Nat) : Int) ((8 * f + k : Nat) : Int) F (fun x F' => x = (dif X S f 8 : Nat) ∧ F' = F) m_no := by
    intro d
    induction d with
    | zero =>
      intro k hk
      obtain rfl : k = 8 := by omega
      exact b_346_7 hS ⟨by omega, by omega, fun c => by omega, fun _ => ⟨rfl, rfl⟩⟩
    | succ d ih =>
      intro k hk
      have hle := dif_le (X := X) (Y := S) (f := f) k
      have hr := hX (8 * f + k) (by omega)
      have hs := hY (8 * f + k) (by omega)
      have nx := ih (k + 1) (by omega)
      rw [show 8 * f + (k + 1) = 8 * f + k + 1 by omega] at nx
      have rr := row _ (dif X S f k) k (8 * f + k) rfl (by omega) (by omega) nx (X (8 * f + k)).length 0
      refine b_346_7 hS ?_
      rw [Int.toNat_natCast, hr.1, hs.1]
      refine ⟨by omega, by omega, fun _ => ⟨by omega, by omega, fun c => rr true (by omega) (fun c => absurd c (by decide)) (fun _ => ⟨by omega, fun i hi => absurd hi (Nat.not_lt_zero i)⟩), fun c => rr false (by omega) (fun _ h => c (by rw [h])) (fun c => absurd c (by decide))⟩, fun c => by omega⟩
  refine c_346 hS ⟨by omega, ?_⟩
  have := key 8 0 (by decide)
  rw [show ((8 * f + 0 : Nat) : Int) = 8 * (f : Int) by omega] at this
  exact this
/-- rows of a file are copied -/
theorem rws_cpf {A B A' B' C D : Nat → Int} (hf : f < 3) (hX : Rws A B X) (hY : Rws C D S) (h1 : ∀ i, A' i = if 192 * f ≤ i ∧ i < 192 * f + 192 then A i else C i) (h2 : ∀ i, B' i = if 8 * f ≤ i ∧ i < 8 * f + 8 then B i else D i) : Rws A' B' (cpf X S f 8) := by
  intro r hr
  unfold cpf
  by_cases c : 8 * f ≤ r ∧ r < 8 * f + 8
  · obtain ⟨a1, a2, a3⟩ := hX r hr
    have := a2.1
    rw [if_pos c, h2, if_pos c]
    exact ⟨a1, a2, fun j hj => by rw [h1, if_pos (by omega)]; exact a3 j hj⟩
  · obtain ⟨a1, a2, a3⟩ := hY r hr
    have := a2.1
    rw [if_neg c, h2, if_neg c]
    exact ⟨a1, a2, fun j hj => by rw [h1, if_neg (by omega)]; exact a3 j hj⟩
theorem r_348 (hS : St F) (h : KR F X S N L d e) : C_348 x1 F (ER F (pif (isF3 x1) 0 1) (vSv X S x1) X (xSv X S x1) N L d e X S N L d e) m_no := by
  refine c_348 hS ⟨fun hp => ?_, fun hp => ER.nay h (pif_0 (fun c => hp (p_f3.mpr c))) (by decide)⟩
  have hp' := p_f3.mp hp
  obtain ⟨f, hf, rfl⟩ := p_f3.mp hp
  have hS0 : St (m_up F 201 15 0) := hS.fld kd_201 rk_12_15
  have hK0 := h.kq (KQ.rf.u15 (v := 0))
  refine CaI.on (s_346 hS0 hK0.1 hK0.2.1 hf) ?_
  rintro x F1 hS1 ⟨rfl, rfl⟩
  rw [show 192 * (f : Int) = ((192 * f : Nat) : Int) by omega, show 8 * (f : Int) = ((8 * f : Nat) : Int) by omega]
  refine ⟨by omega, CaV.on (s_347 (b := 192) kd_202 kd_204 hS0 (by decide) (by omega)) ?_⟩
  rintro F2 hS2 ⟨a1, a2⟩
  refine ⟨by omega, CaV.on (s_347 (b := 8) kd_203 kd_205 hS2 (by decide) (by omega)) ?_⟩
  rintro F3 hS3 ⟨b1, b2⟩
  have hc : ∀ c, c ≠ 204 → c ≠ 205 → F3 c = m_up F 201 15 0 c := fun c p q => by rw [b2 c q, a2 c p]
  have h201 : F3 201 = m_up F 201 15 0 201 := hc 201 (by decide) (by decide)
  refine ⟨by rw [h201, u_eq, pif_1 hp'], fun _ => ⟨by simp only [vSv, Int.toNat_natCast], ?_⟩, fun c => absurd (pif_1 hp') c, fun c p => by rw [hc c (by omega) (by omega), up_row (by omega)]⟩
  obtain ⟨k1, k2, ⟨⟨k3, k4, k5⟩, k6⟩, k7, k8, k9⟩ := hK0
  refine ⟨?_, ?_, ⟨⟨by rw [h201]; exact k3, by rw [hc 206 (by decide) (by decide)]; exact k4, k5⟩, k6⟩, by rw [h201]; exact k7, k8.cg (by rw [h201]) (fun c p q => hc c (by omega) (by omega)), fun hl => by rw [h201]; exact k9 hl⟩
  · show Rws (F3 202) (F3 203) X
    rw [hc 202 (by decide) (by decide), hc 203 (by decide) (by decide)]
    exact k1
  · simp only [xSv, Int.toNat_natCast]
    refine rws_cpf hf k1 k2 (fun i => ?_) (fun i => ?_)
    · rw [b2 204 (by decide), a1 i]
    · rw [b1 i, a2 203 (by decide), a2 205 (by decide)]
theorem r_349 (hS : St F) (h : KR F X S N L d e) : C_349 x1 F (ER F (pif (isF3 x1) 0 1) (vSv S X x1) (xSv S X x1) S N L (if vSv S X x1 = 0 then d else true) e X S N L d e) m_no := by
  refine c_349 hS ⟨fun hp => ?_, fun hp => ER.nay h (pif_0 (fun c => hp (p_f3.mpr c))) (by decide)⟩
  have hp' := p_f3.mp hp
  obtain ⟨f, hf, rfl⟩ := p_f3.mp hp
  have hS0 : St (m_up F 201 15 0) := hS.fld kd_201 rk_12_15
  have hK0 := h.kq (KQ.rf.u15 (v := 0))
  have ev : vSv S X (f : Int) = ((dif S X f 8 : Nat) : Int) := by simp only [vSv, Int.toNat_natCast]
  have ex : xSv S X (f : Int) = cpf S X f 8 := by simp only [xSv, Int.toNat_natCast]
  refine CaI.on (s_346 hS0 hK0.1 hK0.2.1 hf) ?_
  rintro x F1 hS1 ⟨rfl, rfl⟩
  rw [dif_sym (X := X) (Y := S) 8, ev, ex]
  rw [show 192 * (f : Int) = ((192 * f : Nat) : Int) by omega, show 8 * (f : Int) = ((8 * f : Nat) : Int) by omega]
  refine ⟨by omega, CaV.on (s_347 (b := 192) kd_204 kd_202 hS0 (by decide) (by omega)) ?_⟩
  rintro F2 hS2 ⟨a1, a2⟩
  refine ⟨by omega, CaV.on (s_347 (b := 8) kd_205 kd_203 hS2 (by decide) (by omega)) ?_⟩
  rintro F3 hS3 ⟨b1, b2⟩
  have hc : ∀ c, c ≠ 202 → c ≠ 203 → F3 c = m_up F 201 15 0 c := fun c p q => by rw [b2 c q, a2 c p]
  have h201 : F3 201 = m_up F 201 15 0 201 := hc 201 (by decide) (by decide)
  obtain ⟨k1, k2, ⟨⟨k3, k4, k5⟩, k6⟩, k7, k8, k9⟩ := hK0
  have hT : Rws (F3 202) (F3 203) (cpf S X f 8) := by
    refine rws_cpf hf k2 k1 (fun i => ?_) (fun i => ?_)
    · rw [b2 202 (by decide), a1 i]
    · rw [b1 i, a2 205 (by decide), a2 203 (by decide)]
  have fin : ∀ (H : MF) (dd : Bool), (∀ c, c ≠ 201 → H c = F3 c) → (∀ j, j ≠ 14 → H 201 j = F3 201 j) → (L ≠ [] → (H 201 14 ≠ 0 ↔ dd = true)) → ER F (pif (isF3 (f : Int)) 0 1) ((dif S X f 8 : Nat) : Int) (cpf S X f 8) S N L dd e X S N L d e ((dif S X f 8 : Nat) : Int) H := fun H dd hH hj hd => by
    refine ⟨by rw [hj 15 (by decide), h201, u_eq, pif_1 hp'], fun _ => ⟨rfl, ?_, ?_, ⟨⟨by rw [hj 6 (by decide), h201]; exact k3, by rw [hH 206 (by decide), hc 206 (by decide) (by decide)]; exact k4, k5⟩, k6⟩, by rw [hj 4 (by decide), h201]; exact k7, k8.cg (by rw [hj 7 (by decide), h201]) (fun c p q => by rw [hH c (by omega), hc c (by omega) (by omega)]), hd⟩, fun c => absurd (pif_1 hp') c, fun c p => by rw [hH c (by omega), hc c (by omega) (by omega), up_row (by omega)]⟩
    · show Rws (H 202) (H 203) _
      rw [hH 202 (by decide), hH 203 (by decide)]
      exact hT
    · rw [hH 204 (by decide), hH 205 (by decide), hc 204 (by decide) (by decide), hc 205 (by decide) (by decide)]
      exact k2
  refine ⟨fun hpos => CaV.on (s_335 (L := L) hS3 (by rw [h201]; exact k8.1)) ?_, fun hpos => ?_⟩
  · rintro F4 hS4 ⟨w1, w2, w3⟩
    refine fin F4 _ w2 w3 (fun hl => ?_)
    rw [if_neg (by omega), w1 hl]
    exact ⟨fun _ => rfl, fun _ => by decide⟩
  · rw [if_pos (by omega)]
    exact fin F3 d (fun _ _ => rfl) (fun _ _ => rfl) (fun hl => by rw [h201]; exact k9 hl)
theorem r_375 (hS : St F) (h : KR F X S N L d e) : C_375 x1 F (ER F (kSp N x1) (N.length + 1) X S (N ++ [x1]) L d e X S N L d e) m_no := by
  have hn := h.2.2.1.1.2.2
  have h6 := h.2.2.1.1.1
  refine c_375 hS ⟨fun hp => ?_, fun hp => ER.nay h (by unfold kSp; rw [pif_0 (fun c => hp (show ¬ x1 < 97 ∧ ¬ 122 < x1 by omega))]) (by decide)⟩
  have hx : 97 ≤ x1 ∧ x1 ≤ 122 := by
    have : ¬ x1 < 97 ∧ ¬ 122 < x1 := hp
    omega
  rw [h6]
  refine ⟨fun c => ER.nay h (by unfold kSp; rw [pif_1 hx, pif_0 (by omega)]) (by decide), fun c => ⟨by omega, by omega, ?_⟩⟩
  rw [Int.toNat_natCast]
  obtain ⟨H, eH⟩ : ∃ H, H = m_up (m_up (m_up F 201 15 0) 206 N.length x1) 201 6 ((N.length : Int) + 1) := ⟨_, rfl⟩
  rw [← eH]
  have hc : ∀ c, c ≠ 201 → c ≠ 206 → H c = F c := fun c p q => by rw [eH, up_row p, up_row q, up_row p]
  have hj : ∀ j, j ≠ 6 → j ≠ 15 → H 201 j = F 201 j := fun j p q => by rw [eH, u_ne (Or.inr p), up_row (by decide), u_ne (Or.inr q)]
  have e6 : H 201 6 = (N.length : Int) + 1 := by rw [eH, u_eq]
  have e15 : H 201 15 = 0 := by rw [eH, u_ne (Or.inr (by decide)), up_row (by decide), u_eq]
  have e206 : H 206 = m_up F 206 N.length x1 206 := by
    rw [eH, up_row (by decide)]
    funext j
    by_cases c : j = N.length
    · rw [c, u_eq, u_eq]
    · rw [u_ne (Or.inr c), u_ne (Or.inr c), up_row (by decide)]
  have hk0 : kSp N x1 = 0 := by unfold kSp; rw [pif_1 hx, pif_1 (by omega)]
  obtain ⟨k1, k2, ⟨⟨k3, k4, k5⟩, k6⟩, k7, k8, k9⟩ := h
  refine ⟨by rw [e15, hk0], fun _ => ⟨rfl, ?_, by rw [hc 204 (by decide) (by decide), hc 205 (by decide) (by decide)]; exact k2, ⟨⟨by rw [e6, List.length_append, List.length_singleton]; omega, by rw [e206]; exact k4.up, by rw [List.length_append, List.length_singleton]; omega⟩, fun a ha => ?_⟩, by rw [hj 4 (by decide) (by decide)]; exact k7, k8.cg (hj 7 (by decide) (by decide)) (fun c p q => hc c (by omega) (by omega)), fun hl => by rw [hj 14 (by decide) (by decide)]; exact k9 hl⟩, fun c => absurd hk0 c, fun c p => hc c (by omega) (by omega)⟩
  · show Rws (H 202) (H 203) X
    rw [hc 202 (by decide) (by decide), hc 203 (by decide) (by decide)]
    exact k1
  · rcases List.mem_append.mp ha with c | c
    · exact k6 a c
    · rw [List.mem_singleton.mp c]
      exact decide_eq_true (by omega)
theorem r_376 (hS : St F) (h : KR F X S N L d e) : C_376 F (fun r F' => r = (N.length : Int) ∧ KR F' X S [] L d e ∧ Rn F F') m_no := by
  refine c_376 hS ?_
  obtain ⟨k1, k2, ⟨⟨k3, k4, k5⟩, k6⟩, k7, k8, k9⟩ := h
  obtain ⟨H, eH⟩ : ∃ H, H = m_up (m_up F 201 15 0) 201 6 0 := ⟨_, rfl⟩
  rw [← eH]
  have hc : ∀ c, c ≠ 201 → H c = F c := fun c p => by rw [eH, up_row p, up_row p]
  have hj : ∀ j, j ≠ 6 → j ≠ 15 → H 201 j = F 201 j := fun j p q => by rw [eH, u_ne (Or.inr p), u_ne (Or.inr q)]
  refine ⟨k3, ⟨?_, by rw [hc 204 (by decide), hc 205 (by decide)]; exact k2, ⟨⟨by rw [eH, u_eq]; rfl, AL.nil, by decide⟩, fun a ha => absurd ha (List.not_mem_nil)⟩, by rw [hj 4 (by decide) (by decide)]; exact k7, k8.cg (hj 7 (by decide) (by decide)) (fun c p q => hc c (by omega)), fun hl => by rw [hj 14 (by decide) (by decide)]; exact k9 hl⟩, fun c p => hc c (by omega)⟩
  show Rws (H 202) (H 203) X
  rw [hc 202 (by decide), hc 203 (by decide)]
  exact k1
/-- a change of the plan alone -/
theorem KR.pl (h : KR F X S N L d e) (hc : ∀ c, c ≠ 201 → ¬ (207 ≤ c ∧ c ≤ 212) → G c = F c) (hj : ∀ j, j = 4 ∨ j = 6 → G 201 j = F 201 j) (hP : PlR G L') (hd : L' ≠ [] → (G 201 14 ≠ 0 ↔ d' = true)) : KR G X S N L' d' e := by
  obtain ⟨k1, k2, ⟨⟨k3, k4, k5⟩, k6⟩, k7, k8, k9⟩ := h
  refine ⟨?_, by rw [hc 204 (by decide) (by omega), hc 205 (by decide) (by omega)]; exact k2, ⟨⟨by rw [hj 6 (by omega)]; exact k3, by rw [hc 206 (by decide) (by omega)]; exact k4, k5⟩, k6⟩, by rw [hj 4 (by omega)]; exact k7, hP, hd⟩
  show Rws (G 202) (G 203) X
  rw [hc 202 (by decide) (by omega), hc 203 (by decide) (by omega)]
  exact k1
theorem plr_snoc {c : CH} (hP : PlR F L) (hl : L.length < 3) (hc : CHok c) (h7 : G 201 7 = ((L.length + 1 : Nat) : Int)) (h207 : G 207 L.length = (c.1 : Int) + 1) (h208 : G 208 L.length = (c.2.1 : Int)) (h209 : G 209 L.length = (c.2.2.1 : Int)) (h210 : c.1 = 2 → G 210 L.length = (c.2.2.2.1 : Int))
    (h212 : c.1 = 0 → G 212 L.length = (c.2.2.2.2.length : Int) ∧ ∀ j, j < c.2.2.2.2.length → G 211 (6 * L.length + j) = gx c.2.2.2.2 j) (hk : ∀ q i, i < L.length → q = 207 ∨ q = 208 ∨ q = 209 ∨ q = 210 ∨ q = 212 → G q i = F q i) (hk3 : ∀ i, i < 6 * L.length → G 211 i = F 211 i) : PlR G (L ++ [c]) := by
  obtain ⟨k1, k2, k3⟩ := hP
  have hlen : (L ++ [c]).length = L.length + 1 := by rw [List.length_append, List.length_singleton]
  refine ⟨by rw [h7, hlen], by omega, fun i hi => ?_⟩
  by_cases ci : i < L.length
  · have eg : (L ++ [c])[i]'hi = L[i]'ci := List.getElem_append_left ci
    rw [eg]
    obtain ⟨p1, p2, p3, p4, p5, p6⟩ := k3 i ci
    rw [hk 207 i ci (by omega), hk 208 i ci (by omega), hk 209 i ci (by omega), hk 210 i ci (by omega), hk 212 i ci (by omega)]
    refine ⟨p1, p2, p3, p4, p5, fun h0 => ⟨(p6 h0).1, fun j hj => ?_⟩⟩
    have h6 : (L[i]'ci).2.2.2.2.length ≤ 6 := p1.2.2.2.2.2.1
    rw [hk3 _ (by omega)]
    exact (p6 h0).2 j hj
  · obtain rfl : i = L.length := by omega
    have eg : (L ++ [c])[L.length]'hi = c := by rw [List.getElem_append_right (Nat.le_refl _)]; simp only [Nat.sub_self, List.getElem_cons_zero]
    rw [eg]
    exact ⟨hc, h207, h208, h209, h210, h212⟩
/-- a change is written down -/
theorem s_379 {c : CH} {x4 k : Int} (hS : St F) (h : KR F X S N L d e) (hc : CHok c) (h4 : c.1 = 2 → x4 = (c.2.2.2.1 : Int)) (hN : c.1 = 0 → c.2.2.2.2 = N) (hk0 : L.length < 3 → k = 0) (hk3 : ¬ L.length < 3 → k = if c.1 = 2 then 3 else 2) :
    C_379 ((c.1 : Int) + 1) (c.2.1 : Int) (c.2.2.1 : Int) x4 F (ER F k (L.length + 1) X S N (L ++ [c]) (dPl L d) e X S N L d e) m_no := by
  have hP := h.2.2.2.2.1
  have hl3 := hP.2.1
  obtain ⟨⟨n1, n2, n3⟩, n4⟩ := h.2.2.1
  refine c_379 hS ?_
  rw [hP.1]
  refine ⟨fun he => ⟨fun c3 => ER.nay h (by rw [hk3 (by omega), if_pos (by omega)]) (by decide), fun c3 => ER.nay h (by rw [hk3 (by omega), if_neg (by omega)]) (by decide)⟩, fun he => ⟨by omega, by omega, by omega, by omega, by omega, ?_⟩⟩
  have hk := hk0 (by omega)
  rw [Int.toNat_natCast, n1]
  obtain ⟨H, eH⟩ : ∃ H, H = m_up (m_up (m_up (m_up (m_up (m_up F 201 15 0) 207 L.length ((c.1 : Int) + 1)) 208 L.length (c.2.1 : Int)) 209 L.length (c.2.2.1 : Int)) 210 L.length x4) 212 L.length (N.length : Int) := ⟨_, rfl⟩
  rw [← eH]
  have hSH : St H := by rw [eH]; exact (((((hS.fld kd_201 rk_12_15).arr kd_207 (by decide)).arr kd_208 (by decide)).arr kd_209 (by decide)).arr kd_210 (by decide)).arr kd_212 (by decide)
  have g1 : ∀ q, q ≠ 201 → q ≠ 207 → q ≠ 208 → q ≠ 209 → q ≠ 210 → q ≠ 212 → H q = F q := fun q a1 a2 a3 a4 a5 a6 => by rw [eH, up_row a6, up_row a5, up_row a4, up_row a3, up_row a2, up_row a1]
  have g201 : H 201 = m_up F 201 15 0 201 := by rw [eH, up_row (by decide), up_row (by decide), up_row (by decide), up_row (by decide), up_row (by decide)]
  have gi : ∀ q i, i ≠ L.length → q ≠ 201 → H q i = F q i := fun q i hi hq => by rw [eH, u_ne (Or.inr hi), u_ne (Or.inr hi), u_ne (Or.inr hi), u_ne (Or.inr hi), u_ne (Or.inr hi), up_row hq]
  have g207 : H 207 L.length = (c.1 : Int) + 1 := by rw [eH, up_row (by decide), up_row (by decide), up_row (by decide), up_row (by decide), u_eq]
  have g208 : H 208 L.length = (c.2.1 : Int) := by rw [eH, up_row (by decide), up_row (by decide), up_row (by decide), u_eq]
  have g209 : H 209 L.length = (c.2.2.1 : Int) := by rw [eH, up_row (by decide), up_row (by decide), u_eq]
  have g210 : H 210 L.length = x4 := by rw [eH, up_row (by decide), u_eq]
  have g212 : H 212 L.length = (N.length : Int) := by rw [eH, u_eq]
  have key : ∀ (d' i : Nat) (J : MF), i + d' = N.length → St J → fr (fun c => c = 211) H J → (∀ j, j < i → J 211 (6 * L.length + j) = gx N j) → (∀ j, j < 6 * L.length → J 211 j = F 211 j) → L_379_92 (i : Int) J (ER F k (L.length + 1) X S N (L ++ [c]) (dPl L d) e X S N L d e) m_no := by
    intro d'
    induction d' with
    | zero =>
      intro i J hi hSJ hfr hA hB
      have j201 : J 201 = m_up F 201 15 0 201 := by rw [hfr 201 (by decide), g201]
      have j6 : J 201 6 = (N.length : Int) := by rw [j201, u_ne (Or.inr (by decide))]; exact n1
      have j7 : J 201 7 = (L.length : Int) := by rw [j201, u_ne (Or.inr (by decide))]; exact hP.1
      have j14 : J 201 14 = F 201 14 := by rw [j201, u_ne (Or.inr (by decide))]
      have fin : ∀ v : Int, (v ≠ 0 ↔ dPl L d = true) → ER F k (L.length + 1) X S N (L ++ [c]) (dPl L d) e X S N L d e ((L.length : Int) + 1) (m_up (m_up J 201 14 v) 201 7 ((L.length : Int) + 1)) := fun v hv => by
        obtain ⟨Z, eZ⟩ : ∃ Z, Z = m_up (m_up J 201 14 v) 201 7 ((L.length : Int) + 1) := ⟨_, rfl⟩
        rw [← eZ]
        have z1 : ∀ q, q ≠ 201 → Z q = J q := fun q hq => by rw [eZ, up_row hq, up_row hq]
        have z2 : ∀ j, j ≠ 7 → j ≠ 14 → Z 201 j = J 201 j := fun j p q => by rw [eZ, u_ne (Or.inr p), u_ne (Or.inr q)]
        have z7 : Z 201 7 = (L.length : Int) + 1 := by rw [eZ, u_eq]
        have z14 : Z 201 14 = v := by rw [eZ, u_ne (Or.inr (by decide)), u_eq]
        have zq : ∀ q, q ≠ 201 → q ≠ 211 → Z q = H q := fun q a b => by rw [z1 q a, hfr q b]
        refine ⟨by rw [z2 15 (by decide) (by decide), j201, u_eq, hk], fun _ => ⟨rfl, ?_⟩, fun c => absurd hk c, fun q hq => by rw [zq q (by omega) (by omega), g1 q (by omega) (by omega) (by omega) (by omega) (by omega) (by omega)]⟩
        refine h.pl (fun q a b => by rw [zq q a (by omega), g1 q a (by omega) (by omega) (by omega) (by omega) (by omega)]) (fun j hj => by rw [z2 j (by omega) (by omega), j201, u_ne (Or.inr (by omega))]) ?_ (fun _ => by rw [z14]; exact hv)
        refine plr_snoc hP (by omega) hc (by rw [z7]; omega) (by rw [zq 207 (by decide) (by decide)]; exact g207) (by rw [zq 208 (by decide) (by decide)]; exact g208) (by rw [zq 209 (by decide) (by decide)]; exact g209) (fun c2 => by rw [zq 210 (by decide) (by decide), g210]; exact h4 c2) (fun c0 => ?_) (fun q i hi hq => by rw [zq q (by omega) (by omega)]; exact gi q i (by omega) (by omega)) (fun i hi => by rw [z1 211 (by decide)]; exact hB i hi)
        rw [hN c0]
        exact ⟨by rw [zq 212 (by decide) (by decide)]; exact g212, fun j hj => by rw [z1 211 (by decide)]; exact hA j (by omega)⟩
      refine b_379_92 hSJ ?_
      rw [j6, j7, j14]
      refine ⟨fun c => by omega, fun _ => ⟨fun hp => ?_, fun hp => ⟨by omega, fin 0 ?_⟩⟩⟩
      · have hne : L ≠ [] := fun c => by rw [c] at hp; exact absurd hp (by decide)
        have hd := h.2.2.2.2.2 hne
        have ed : dPl L d = d := if_neg hne
        exact ⟨fun c => ⟨by omega, fin 0 (by rw [ed]; exact ⟨fun c2 => absurd rfl c2, fun c2 => absurd c (hd.mpr c2)⟩)⟩, fun c => ⟨by omega, fin 1 (by rw [ed]; exact ⟨fun _ => hd.mp c, fun _ => by decide⟩)⟩⟩
      · have he : L = [] := List.length_eq_zero_iff.mp (by omega)
        have ed : dPl L d = false := if_pos he
        rw [ed]
        exact ⟨fun c => absurd rfl c, fun c => absurd c (by decide)⟩
    | succ d' ih =>
      intro i J hi hSJ hfr hA hB
      have j201 : J 201 = m_up F 201 15 0 201 := by rw [hfr 201 (by decide), g201]
      have j6 : J 201 6 = (N.length : Int) := by rw [j201, u_ne (Or.inr (by decide))]; exact n1
      have j7 : J 201 7 = (L.length : Int) := by rw [j201, u_ne (Or.inr (by decide))]; exact hP.1
      have j206 : J 206 i = gx N i := by rw [hfr 206 (by decide), g1 206 (by decide) (by decide) (by decide) (by decide) (by decide) (by decide)]; exact n2 i (by omega)
      refine b_379_92 hSJ ?_
      rw [j6, j7, Int.toNat_natCast, j206, show (6 * (L.length : Int) + (i : Int)).toNat = 6 * L.length + i by omega]
      refine ⟨fun _ => ⟨by omega, by omega, by omega, by omega, by omega, ?_⟩, fun c => by omega⟩
      have := ih (i + 1) (m_up J 211 (6 * L.length + i) (gx N i)) (by omega) (hSJ.arr kd_211 (by decide)) (hfr.up rfl) (fun j hj => by
        by_cases c : j = i
        · rw [c, u_eq]
        · rw [u_ne (Or.inr (by omega))]; exact hA j (by omega)) (fun j hj => by rw [u_ne (Or.inr (by omega))]; exact hB j hj)
      rw [show ((i + 1 : Nat) : Int) = (i : Int) + 1 by omega] at this
      exact this
  exact key N.length 0 H (by omega) hSH fr.rf (fun j hj => absurd hj (Nat.not_lt_zero j)) (fun j hj => by rw [g1 211 (by decide) (by decide) (by decide) (by decide) (by decide) (by decide)])
theorem ER.kq {k v r : Int} {H : MF} (h : KQ F G) (he : ER G k v X' S' N' L' d' e' X S N L d e r H) : ER F k v X' S' N' L' d' e' X S N L d e r H := ⟨he.1, he.2.1, he.2.2.1, h.rn.tr he.2.2.2⟩
theorem ER.k15 {c v r : Int} (h : KR F X S N L d e) (q : KQ F G) (hc : G 201 15 = c) (hn : c ≠ 0) : ER F c v X' S' N' L' d' e' X S N L d e r G := ⟨hc, fun h => absurd h hn, fun _ => h.kq q, q.rn⟩
theorem r_380 (hS : St F) (h : KR F X S N L d e) : C_380 x1 x2 F (ER F (kPl X L x1 x2) (L.length + 1) X S N (L ++ [(0, x1.toNat, x2.toNat, 0, N)]) (dPl L d) e X S N L d e) m_no := by
  refine c_380 hS (CaI.on (s_355 hS h) ?_)
  rintro r F1 hS1 ⟨⟨rfl, ⟨f, k, hf, hk', rfl, rfl⟩, h15, nn, d1⟩ | ⟨rfl, hn, h15⟩, hk⟩
  · have lk := toks_len h.hX hf
    have hT : isTk X (f : Int) (k : Int) := ⟨f, k, hf, hk', rfl, rfl⟩
    rw [Int.toNat_natCast, Int.toNat_natCast]
    refine ⟨fun c => absurd c (by decide), fun _ => CaI.on (s_379 (c := (0, f, k, 0, N)) (x4 := -1) (k := kPl X L (f : Int) (k : Int)) hS1 (h.kq hk) ⟨(show (0 : Nat) ≤ 2 by decide), hf, by show k < 200; omega, by show (0 : Nat) < 3; decide, fun c => absurd (show (0 : Nat) = 2 from c) (by decide), h.2.2.1.1.2.2, h.2.2.1.2⟩ (fun c => absurd (show (0 : Nat) = 2 from c) (by decide)) (fun _ => rfl) (fun c => by unfold kPl; rw [pif_1 hT, pif_1 c]) (fun c => by unfold kPl; rw [pif_1 hT, pif_0 c]; rfl)) (fun r F' _ he => ER.kq hk he)⟩
  · exact ⟨fun _ => ER.k15 h hk (by rw [h15]; unfold kPl; rw [pif_0 hn]) (by unfold kPl; rw [pif_0 hn]; decide), fun c => absurd rfl c⟩
theorem r_381 (hS : St F) (h : KR F X S N L d e) : C_381 x1 x2 F (ER F (kPl X L x1 x2) (L.length + 1) X S N (L ++ [(1, x1.toNat, x2.toNat, 0, [])]) (dPl L d) e X S N L d e) m_no := by
  refine c_381 hS (CaI.on (s_355 hS h) ?_)
  rintro r F1 hS1 ⟨⟨rfl, ⟨f, k, hf, hk', rfl, rfl⟩, h15, nn, d1⟩ | ⟨rfl, hn, h15⟩, hk⟩
  · have lk := toks_len h.hX hf
    have hT : isTk X (f : Int) (k : Int) := ⟨f, k, hf, hk', rfl, rfl⟩
    rw [Int.toNat_natCast, Int.toNat_natCast]
    refine ⟨fun c => absurd c (by decide), fun _ => CaI.on (s_379 (c := (1, f, k, 0, [])) (x4 := -1) (k := kPl X L (f : Int) (k : Int)) hS1 (h.kq hk) ⟨(show (1 : Nat) ≤ 2 by decide), hf, by show k < 200; omega, by show (0 : Nat) < 3; decide, fun c => absurd (show (1 : Nat) = 2 from c) (by decide), by show (0 : Nat) ≤ 6; decide, fun a ha => absurd ha (List.not_mem_nil)⟩ (fun c => absurd (show (1 : Nat) = 2 from c) (by decide)) (fun c => absurd (show (1 : Nat) = 0 from c) (by decide)) (fun c => by unfold kPl; rw [pif_1 hT, pif_1 c]) (fun c => by unfold kPl; rw [pif_1 hT, pif_0 c]; rfl)) (fun r F' _ he => ER.kq hk he)⟩
  · exact ⟨fun _ => ER.k15 h hk (by rw [h15]; unfold kPl; rw [pif_0 hn]) (by unfold kPl; rw [pif_0 hn]; decide), fun c => absurd rfl c⟩
theorem r_382 (hS : St F) (h : KR F X S N L d e) : C_382 x1 x2 x3 F (ER F (kMo X L x1 x2 x3) (L.length + 1) X S N (L ++ [(2, x1.toNat, x2.toNat, x3.toNat, [])]) (dPl L d) e X S N L d e) m_no := by
  refine c_382 hS (CaI.on (s_355 hS h) ?_)
  rintro r F1 hS1 ⟨⟨rfl, ⟨f, k, hf, hk', rfl, rfl⟩, h15, nn, d1⟩ | ⟨rfl, hn, h15⟩, hk⟩
  · have lk := toks_len h.hX hf
    have hT : isTk X (f : Int) (k : Int) := ⟨f, k, hf, hk', rfl, rfl⟩
    rw [Int.toNat_natCast, Int.toNat_natCast]
    refine ⟨fun c => absurd c (by decide), fun _ => ⟨fun hp => ?_, fun hp => ?_⟩⟩
    · have h3 := p_f3.mp hp
      have hTo : isTk X (f : Int) (k : Int) ∧ isF3 x3 := ⟨hT, h3⟩
      obtain ⟨o, ho, rfl⟩ := p_f3.mp hp
      rw [Int.toNat_natCast]
      refine ⟨fun c => ER.k15 h hk.u15 (by rw [u_eq]; unfold kMo; rw [pif_1 hTo, pif_1 c]) (by unfold kMo; rw [pif_1 hTo, pif_1 c]; decide), fun c => CaI.on (s_379 (c := (2, f, k, o, [])) (x4 := (o : Int)) (k := kMo X L (f : Int) (k : Int) (o : Int)) (hS1.fld kd_201 rk_12_15) (h.kq hk.u15) ⟨(show (2 : Nat) ≤ 2 by decide), hf, by show k < 200; omega, ho, fun _ => by show o ≠ f; omega, by show (0 : Nat) ≤ 6; decide, fun a ha => absurd ha (List.not_mem_nil)⟩ (fun _ => rfl) (fun c => absurd (show (2 : Nat) = 0 from c) (by decide)) (fun c2 => by unfold kMo; rw [pif_1 hTo, pif_0 c, pif_1 c2]) (fun c2 => by unfold kMo; rw [pif_1 hTo, pif_0 c, pif_0 c2]; rfl)) (fun r F' _ he => ER.kq hk.u15 he)⟩
    · have e1 : kMo X L (f : Int) (k : Int) x3 = 1 := by unfold kMo; rw [pif_0 (fun c => hp (p_f3.mpr c.2))]
      exact ER.k15 h hk.u15 (by rw [u_eq, e1]) (by rw [e1]; decide)
  · have e1 : kMo X L x1 x2 x3 = 1 := by unfold kMo; rw [pif_0 (fun c => hn c.1)]
    exact ⟨fun _ => ⟨fun c => by omega, fun _ => ER.k15 h hk (by rw [h15, e1]) (by rw [e1]; decide)⟩, fun c => absurd rfl c⟩
theorem r_383 (hS : St F) (h : KR F X S N L d e) : C_383 F (fun r F' => r = (L.length : Int) ∧ KR F' X S N [] d e ∧ Rn F F' ∧ F' 201 15 = 0) m_no := by
  refine c_383 hS ?_
  obtain ⟨H, eH⟩ : ∃ H, H = m_up (m_up (m_up F 201 15 0) 201 7 0) 201 14 0 := ⟨_, rfl⟩
  rw [← eH]
  have hc : ∀ c, c ≠ 201 → H c = F c := fun c p => by rw [eH, up_row p, up_row p, up_row p]
  refine ⟨h.2.2.2.2.1.1, h.pl (fun c p q => hc c p) (fun j hj => by rw [eH, u_ne (Or.inr (by omega)), u_ne (Or.inr (by omega)), u_ne (Or.inr (by omega))]) ⟨by rw [eH, u_ne (Or.inr (by decide)), u_eq]; rfl, by decide, fun i hi => absurd hi (Nat.not_lt_zero i)⟩ (fun c => absurd rfl c), fun c p => hc c (by omega), by rw [eH, u_ne (Or.inr (by decide)), u_ne (Or.inr (by decide)), u_eq]⟩
theorem re_r (h : L ≠ [] → (F 201 14 ≠ 0 ↔ d = true)) : (if L ≠ [] ∧ F 201 14 ≠ 0 then 1 else (plw L X).1) = vRe X L d := by
  unfold vRe
  by_cases c : L = []
  · rw [if_neg (fun h => h.1 c), if_pos c, c]
    rfl
  · rw [if_neg c]
    by_cases c2 : F 201 14 ≠ 0
    · rw [if_pos ⟨c, c2⟩, if_pos ((h c).mp c2)]
    · rw [if_neg (fun h => c2 h.2), if_neg (fun c3 => c2 ((h c).mpr c3))]
/-- playing changes only the text -/
theorem PFk.kr (p : PFk F G) (h : KR F X S N L d e) (hT : TxM G Y) : KR G Y S N L d e := by
  obtain ⟨k1, k2, ⟨⟨k3, k4, k5⟩, k6⟩, k7, k8, k9⟩ := h
  exact ⟨hT, by rw [p.1 204 (by omega), p.1 205 (by omega)]; exact k2, ⟨⟨by rw [p.2 6 (by decide)]; exact k3, by rw [p.1 206 (by omega)]; exact k4, k5⟩, k6⟩, by rw [p.2 4 (by decide)]; exact k7, k8.cg (p.2 7 (by decide)) (fun c a b => p.1 c (by omega)), fun hl => by rw [p.2 14 (by decide)]; exact k9 hl⟩
theorem r_384 (hS : St F) (h : KR F X S N L d e) : C_384 F (fun r F' => r = vRe X L d ∧ KR F' X S N L d e ∧ Rn F F') m_no := by
  have hS0 : St (m_up F 201 15 0) := hS.fld kd_201 rk_12_15
  have h0 := h.kq (KQ.rf.u15 (v := 0))
  refine c_384 hS (CaI.on (s_333 hS0 h0.1 h0.2.2.2.2.1) ?_)
  rintro x F1 hS1 ⟨e1, u2, u3, u4⟩
  rw [re_r h0.2.2.2.2.2] at e1
  have hRn : Rn F F1 := fun c hc => by rw [u4.1 c (by omega), up_row (by omega)]
  refine ⟨fun hz => ?_, fun hz => ⟨e1, u4.kr h0 (u3 hz), hRn⟩⟩
  obtain ⟨t1, t2⟩ := u2 hz
  have k7 : F1 201 7 = (L.length : Int) := by rw [u4.2 7 (by decide)]; exact h0.2.2.2.2.1.1
  refine c_385 hS1 ?_
  rw [k7]
  refine ⟨fun hp => CaV.on (s_334 hS1 t2) ?_, fun hp => ?_⟩
  · rintro F2 hS2 ⟨w1, w2⟩
    have p2 : PFk F1 F2 := ⟨fun c hc => w2 c (by omega), fun j _ => by rw [w2 201 (by decide)]⟩
    exact ⟨e1, (u4.tr p2).kr h0 w1, fun c hc => by rw [w2 c (by omega)]; exact hRn c hc⟩
  · have he : L = [] := List.length_eq_zero_iff.mp (by omega)
    have ep : (plw L X).2 = X := by rw [he]; rfl
    rw [ep] at t1
    exact ⟨e1, u4.kr h0 t1, hRn⟩
theorem r_386 (hS : St F) (h : KR F X S N L d e) : C_386 F (ER F (kCa X L d) L.length (plw L X).2 S N [] d e X S N L d e) m_no := by
  have hn : L = [] ↔ F 201 7 = 0 := by
    rw [h.2.2.2.2.1.1]
    constructor
    · intro h; rw [h]; rfl
    · intro h; exact List.length_eq_zero_iff.mp (by omega)
  refine c_386 hS ⟨fun h0 => ER.nay h (by unfold kCa; rw [pif_0 (fun c => c.1 (hn.mpr h0))]) (by decide), fun h0 => CaI.on (s_333 hS h.1 h.2.2.2.2.1) ?_⟩
  have hne : L ≠ [] := fun c => h0 (hn.mp c)
  rintro x F1 hS1 ⟨e1, u2, u3, u4⟩
  rw [re_r h.2.2.2.2.2] at e1
  have hRn : Rn F F1 := fun c hc => u4.1 c (by omega)
  have hnn : 0 ≤ x := by
    rw [e1]
    unfold vRe
    have := plw_nn L X
    split
    · decide
    · split
      · decide
      · exact this
  refine ⟨fun hp => ?_, fun hp => ?_⟩
  · have hK := u4.kr h (u3 (by omega))
    have ek : kCa X L d = 1 := by unfold kCa; rw [pif_0 (fun c => by rw [← e1] at c; omega)]
    exact ⟨by rw [u_eq, ek], fun c => absurd (ek.symm.trans c) (by decide), fun _ => hK.kq KQ.rf.u15, hRn.tr (KQ.rf.u15 (v := 1)).rn⟩
  · have hz : x = 0 := by omega
    have ek : kCa X L d = 0 := by unfold kCa; rw [pif_1 ⟨hne, by rw [← e1]; exact hz⟩]
    have hK := u4.kr h (u2 hz).1
    refine CaI.on (r_383 (hS1.fld kd_201 rk_12_15) (hK.kq (KQ.rf.u15 (v := 0)))) ?_
    rintro r F2 hS2 ⟨w1, w2, w3, w4⟩
    exact ⟨by rw [w4, ek], fun _ => ⟨w1, w2⟩, fun c => absurd ek c, (hRn.tr (KQ.rf.u15 (v := 0)).rn).tr w3⟩
theorem r_353 (hS : St F) (h : KR F X S N L d e) : C_353 F (fun r F' => r = e ∧ KR F' X S N L d e ∧ Rn F F') m_no := c_353 hS ⟨h.2.2.2.1, h.kq KQ.rf.u15, KQ.rf.u15.rn⟩
theorem f_149 (hS : St F) (h : KC F X S N L d e) : C_149 F (fun r F' => r = e ∧ KC F' X S N L d e ∧ Cn F F') m_no := c_149 hS ⟨h.2.2.2.2.2.1, h, Cn.rf⟩
end Mnb
