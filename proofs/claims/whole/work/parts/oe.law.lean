/-! THE LAW'S RUN -/
section Moe
variable {kb i n t : Nat} {F F1 G : MF} {Q : Nat × List MV → MF → Prop} {P : Int → Prop} {k v r a b m : Int} {X S X' S' : Nat → List Int} {N N' : List Int} {L L' : List CH} {d d' : Bool} {e e' : Int} {p : Prop}
theorem pif_le (ha : a ≤ m) (hb : b ≤ m) : pif p a b ≤ m := by
  by_cases h : p
  · rw [pif_1 h]; exact ha
  · rw [pif_0 h]; exact hb
theorem et1 (hk : k ≤ 1) (hP : P v) (hS : St F1) (h : ET F k (fun t => (t : Int) + 1) X S N L d e t F1) : t = 0 ∧ ∃ v, P v ∧ WQ F k v X' S' N' L' d' e' X S N L d e (0, [(0, 1)]) F1 := by
  obtain ⟨h1, h2, h3⟩ := h
  dsimp only at h1
  exact ⟨by omega, v, hP, wq_n hS (by omega) (by decide) h2 h3⟩
theorem et3 (hk : k ≤ 3) (hP : P v) (hS : St F1) (h : ET F k (fun t => (t : Int) + 1) X S N L d e t F1) : (t = 0 ∧ ∃ v, P v ∧ WQ F k v X' S' N' L' d' e' X S N L d e (0, [(0, 1)]) F1) ∨ (t = 1 ∧ ∃ v, P v ∧ WQ F k v X' S' N' L' d' e' X S N L d e (0, [(0, 2)]) F1) ∨ (t = 2 ∧ ∃ v, P v ∧ WQ F k v X' S' N' L' d' e' X S N L d e (0, [(0, 3)]) F1) := by
  obtain ⟨h1, h2, h3⟩ := h
  dsimp only at h1
  have : t = 0 ∨ t = 1 ∨ t = 2 := by omega
  rcases this with c | c | c
  · exact Or.inl ⟨c, v, hP, wq_n hS (by omega) (by decide) h2 h3⟩
  · exact Or.inr (Or.inl ⟨c, v, hP, wq_n hS (by omega) (by decide) h2 h3⟩)
  · exact Or.inr (Or.inr ⟨c, v, hP, wq_n hS (by omega) (by decide) h2 h3⟩)
theorem etS (hk : k ≤ 3) (hP : P v) (hS : St F1) (h : ET F k (fun t => if t = 1 then 1 else if t = 2 then 2 else 99) X S N L d e t F1) : (t = 1 ∧ ∃ v, P v ∧ WQ F k v X' S' N' L' d' e' X S N L d e (0, [(0, 1)]) F1) ∨ (t = 2 ∧ ∃ v, P v ∧ WQ F k v X' S' N' L' d' e' X S N L d e (0, [(0, 2)]) F1) := by
  obtain ⟨h1, h2, h3⟩ := h
  dsimp only at h1
  by_cases c1 : t = 1
  · rw [if_pos c1] at h1
    exact Or.inl ⟨c1, v, hP, wq_n hS h1 (by decide) h2 h3⟩
  · rw [if_neg c1] at h1
    by_cases c2 : t = 2
    · rw [if_pos c2] at h1
      exact Or.inr ⟨c2, v, hP, wq_n hS h1 (by decide) h2 h3⟩
    · rw [if_neg c2] at h1
      omega
theorem etP (hk : k ≤ 3) (hP : P v) (hS : St F1) (h : ET F k (fun t => if t = 0 then 1 else if t = 2 then 2 else 99) X S N L d e t F1) : (t = 0 ∧ ∃ v, P v ∧ WQ F k v X' S' N' L' d' e' X S N L d e (0, [(0, 1)]) F1) ∨ (t = 2 ∧ ∃ v, P v ∧ WQ F k v X' S' N' L' d' e' X S N L d e (0, [(0, 2)]) F1) := by
  obtain ⟨h1, h2, h3⟩ := h
  dsimp only at h1
  by_cases c1 : t = 0
  · rw [if_pos c1] at h1
    exact Or.inl ⟨c1, v, hP, wq_n hS h1 (by decide) h2 h3⟩
  · rw [if_neg c1] at h1
    by_cases c2 : t = 2
    · rw [if_pos c2] at h1
      exact Or.inr ⟨c2, v, hP, wq_n hS h1 (by decide) h2 h3⟩
    · rw [if_neg c2] at h1
      omega
theorem etC (hk : k ≤ 3) (hP : P v) (hS : St F1) (h : ET F k (fun t => if t = 2 then 1 else 99) X S N L d e t F1) : t = 2 ∧ ∃ v, P v ∧ WQ F k v X' S' N' L' d' e' X S N L d e (0, [(0, 1)]) F1 := by
  obtain ⟨h1, h2, h3⟩ := h
  dsimp only at h1
  by_cases c2 : t = 2
  · rw [if_pos c2] at h1
    exact ⟨c2, v, hP, wq_n hS h1 (by decide) h2 h3⟩
  · rw [if_neg c2] at h1
    omega
theorem and63 (x : Int) : 0 ≤ m_and x 63 ∧ m_and x 63 ≤ 63 := by
  unfold m_and
  have h : ((x % 4294967296).toNat &&& ((63 : Int) % 4294967296).toNat) ≤ ((63 : Int) % 4294967296).toNat := Nat.and_le_right
  have h2 : ((63 : Int) % 4294967296).toNat = 63 := by decide
  rw [h2] at h ⊢
  rw [w32_id (by omega)]
  omega

theorem EvN.more {M pc : Nat} {ls : ML} {st : List MV} (h : EvN kb M pc ls st F Q) : EvN (1 + kb) M pc ls st F Q := by
  intro d hd c s
  obtain ⟨f, o, F2, c', s', h1, h2, h3, h4⟩ := h d hd c s
  exact ⟨f, o, F2, c', s', h1, by omega, by omega, h4⟩
theorem rec_er {x y r : Int} (h : reC X x y r) : isEr X x y := by
  obtain ⟨f, k, a1, a2, a3, a4, -⟩ := h
  exact ⟨f, k, a1, a2, a3, a4⟩
theorem r3_383 (hS : St F) (h : KR F X S N L d e) : C_383 F (fun r F' => r = (L.length : Int) ∧ KR F' X S N [] d e ∧ Rn F F') m_no := CaI.on (r_383 hS h) (fun _ _ _ h => ⟨h.1, h.2.1, h.2.2.1⟩)

theorem lc_0 (hS : St F) (hK : KC F X S N L d e) (hR : KR F X S N L d e) (hs : F 1000001 0 = (n : Int)) (hi : i + 5 ≤ n) (hn : n ≤ 2560)
    (next : ∀ F2 X S N L d e, St F2 → KC F2 X S N L d e → KR F2 X S N L d e → F2 1000000 = F 1000000 → F2 1000001 = F 1000001 → EvN kb 420 2515 (lloc i) [] F2 Q) : EvN (1 + kb) 420 204 (lloc i) [] F Q := by
  refine lb_0 (P := fun v => v = _) hs hi hn (w_387 (f_141 hS hK) (fun r F1 hS1 h => ⟨_, rfl, wq_y hS1 h⟩) (fun t F1 hS1 h => et3 (by unfold kIn; exact pif_le (pif_le (pif_le (by decide) (by decide)) (by decide)) (by decide)) rfl hS1 h)) hR (fun v F1 hP hS1 hR1 => by rw [hP]; exact r_338 hS1 hR1) (fun F2 X2 S2 N2 L2 d2 e2 a1 a2 a3 a4 a5 => next F2 X2 S2 N2 L2 d2 e2 a1 a2 a3 a4 a5)
theorem lc_1 (hS : St F) (hK : KC F X S N L d e) (hR : KR F X S N L d e) (hs : F 1000001 0 = (n : Int)) (hi : i + 5 ≤ n) (hn : n ≤ 2560)
    (next : ∀ F2 X S N L d e, St F2 → KC F2 X S N L d e → KR F2 X S N L d e → F2 1000000 = F 1000000 → F2 1000001 = F 1000001 → EvN kb 420 2515 (lloc i) [] F2 Q) : EvN (1 + kb) 420 298 (lloc i) [] F Q := by
  refine lb_1 (P := fun v => v = _) hs hi hn (w_388 (f_142 hS hK) (fun r F1 hS1 h => ⟨_, rfl, wq_y hS1 h⟩) (fun t F1 hS1 h => et1 (pif_le (by decide) (by decide)) rfl hS1 h)) hR (fun v F1 hP hS1 hR1 => by rw [hP]; exact r_339 hS1 hR1) (fun F2 X2 S2 N2 L2 d2 e2 a1 a2 a3 a4 a5 => next F2 X2 S2 N2 L2 d2 e2 a1 a2 a3 a4 a5)
theorem lc_2 (hS : St F) (hK : KC F X S N L d e) (hR : KR F X S N L d e) (hs : F 1000001 0 = (n : Int)) (hi : i + 5 ≤ n) (hn : n ≤ 2560)
    (next : ∀ F2 X S N L d e, St F2 → KC F2 X S N L d e → KR F2 X S N L d e → F2 1000000 = F 1000000 → F2 1000001 = F 1000001 → EvN kb 420 2515 (lloc i) [] F2 Q) : EvN (1 + kb) 420 378 (lloc i) [] F Q := by
  refine lb_2 (P := fun v => v = _) hs hi hn (w_389 (f_143 hS hK) (fun r F1 hS1 h => ⟨_, rfl, wq_y hS1 h⟩) (fun t F1 hS1 h => et3 (by unfold kPa; exact pif_le (pif_le (pif_le (by decide) (by decide)) (by decide)) (by decide)) rfl hS1 h)) hR (fun v F1 hP hS1 hR1 => by rw [hP]; exact r_344 hS1 hR1) (fun F2 X2 S2 N2 L2 d2 e2 a1 a2 a3 a4 a5 => next F2 X2 S2 N2 L2 d2 e2 a1 a2 a3 a4 a5)
theorem lc_3 (hS : St F) (hK : KC F X S N L d e) (hR : KR F X S N L d e) (hs : F 1000001 0 = (n : Int)) (hi : i + 5 ≤ n) (hn : n ≤ 2560)
    (next : ∀ F2 X S N L d e, St F2 → KC F2 X S N L d e → KR F2 X S N L d e → F2 1000000 = F 1000000 → F2 1000001 = F 1000001 → EvN kb 420 2515 (lloc i) [] F2 Q) : EvN (1 + kb) 420 458 (lloc i) [] F Q := by
  refine lb_3 (P := fun v => v = _) hs hi hn (w_390 (f_144 hS hK) (fun r F1 hS1 h => ⟨_, rfl, wq_y hS1 h⟩) (fun t F1 hS1 h => et1 (pif_le (by decide) (by decide)) rfl hS1 h)) hR (fun v F1 hP hS1 hR1 => by rw [hP]; exact r_345 hS1 hR1) (fun F2 X2 S2 N2 L2 d2 e2 a1 a2 a3 a4 a5 => next F2 X2 S2 N2 L2 d2 e2 a1 a2 a3 a4 a5)
theorem lc_4 (hS : St F) (hK : KC F X S N L d e) (hR : KR F X S N L d e) (hs : F 1000001 0 = (n : Int)) (hi : i + 5 ≤ n) (hn : n ≤ 2560)
    (next : ∀ F2 X S N L d e, St F2 → KC F2 X S N L d e → KR F2 X S N L d e → F2 1000000 = F 1000000 → F2 1000001 = F 1000001 → EvN kb 420 2515 (lloc i) [] F2 Q) : EvN (1 + kb) 420 526 (lloc i) [] F Q := by
  refine lb_4 (P := fun v => v = _) hs hi hn (w_391 (f_145 hS hK) (fun r F1 hS1 h => ⟨_, rfl, wq_y hS1 h⟩) (fun t F1 hS1 h => et1 (pif_le (by decide) (by decide)) rfl hS1 h)) hR (fun v F1 hP hS1 hR1 => by rw [hP]; exact r_348 hS1 hR1) (fun F2 X2 S2 N2 L2 d2 e2 a1 a2 a3 a4 a5 => next F2 X2 S2 N2 L2 d2 e2 a1 a2 a3 a4 a5)
theorem lc_5 (hS : St F) (hK : KC F X S N L d e) (hR : KR F X S N L d e) (hs : F 1000001 0 = (n : Int)) (hi : i + 5 ≤ n) (hn : n ≤ 2560)
    (next : ∀ F2 X S N L d e, St F2 → KC F2 X S N L d e → KR F2 X S N L d e → F2 1000000 = F 1000000 → F2 1000001 = F 1000001 → EvN kb 420 2515 (lloc i) [] F2 Q) : EvN (1 + kb) 420 582 (lloc i) [] F Q := by
  refine lb_5 (P := fun v => v = _) hs hi hn (w_392 (f_146 hS hK) (fun r F1 hS1 h => ⟨_, rfl, wq_y hS1 h⟩) (fun t F1 hS1 h => et1 (pif_le (by decide) (by decide)) rfl hS1 h)) hR (fun v F1 hP hS1 hR1 => by rw [hP]; exact r_349 hS1 hR1) (fun F2 X2 S2 N2 L2 d2 e2 a1 a2 a3 a4 a5 => next F2 X2 S2 N2 L2 d2 e2 a1 a2 a3 a4 a5)
theorem lc_6 (hS : St F) (hK : KC F X S N L d e) (hR : KR F X S N L d e) (hs : F 1000001 0 = (n : Int)) (hi : i + 5 ≤ n) (hn : n ≤ 2560)
    (next : ∀ F2 X S N L d e, St F2 → KC F2 X S N L d e → KR F2 X S N L d e → F2 1000000 = F 1000000 → F2 1000001 = F 1000001 → EvN kb 420 2515 (lloc i) [] F2 Q) : EvN (1 + kb) 420 638 (lloc i) [] F Q := by
  refine lb_6 (P := fun v => v = _) hs hi hn (w_393 (CaI.mono (f_147 hS hK) (fun _ _ _ h => h.eo) (fun _ _ _ h => h.et)) (fun r F1 hS1 h => ⟨_, rfl, wq_y hS1 h⟩) (fun t F1 hS1 h => et1 (pif_le (by decide) (by decide)) rfl hS1 h)) hR (fun v F1 hP hS1 hR1 => by rw [hP]; exact CaI.on (r_351 hS1 hR1) (fun _ _ _ h => h.er)) (fun F2 X2 S2 N2 L2 d2 e2 a1 a2 a3 a4 a5 => next F2 X2 S2 N2 L2 d2 e2 a1 a2 a3 a4 a5)
theorem lc_7 (hS : St F) (hK : KC F X S N L d e) (hR : KR F X S N L d e) (hs : F 1000001 0 = (n : Int)) (hi : i + 5 ≤ n) (hn : n ≤ 2560)
    (next : ∀ F2 X S N L d e, St F2 → KC F2 X S N L d e → KR F2 X S N L d e → F2 1000000 = F 1000000 → F2 1000001 = F 1000001 → EvN kb 420 2515 (lloc i) [] F2 Q) : EvN (1 + kb) 420 718 (lloc i) [] F Q := by
  refine lb_7 (P := fun v => v = _) hs hi hn (w_394 (CaI.mono (f_148 hS hK) (fun _ _ _ h => h.eo) (fun _ _ _ h => h.et)) (fun r F1 hS1 h => ⟨_, rfl, wq_y hS1 h⟩) (fun t F1 hS1 h => et1 (pif_le (by decide) (by decide)) rfl hS1 h)) hR (fun v F1 hP hS1 hR1 => by rw [hP]; exact CaI.on (r_352 hS1 hR1) (fun _ _ _ h => h.er)) (fun F2 X2 S2 N2 L2 d2 e2 a1 a2 a3 a4 a5 => next F2 X2 S2 N2 L2 d2 e2 a1 a2 a3 a4 a5)
theorem lc_8 (hS : St F) (hK : KC F X S N L d e) (hR : KR F X S N L d e) (hs : F 1000001 0 = (n : Int)) (hi : i + 5 ≤ n) (hn : n ≤ 2560)
    (next : ∀ F2 X S N L d e, St F2 → KC F2 X S N L d e → KR F2 X S N L d e → F2 1000000 = F 1000000 → F2 1000001 = F 1000001 → EvN kb 420 2515 (lloc i) [] F2 Q) : EvN (1 + kb) 420 786 (lloc i) [] F Q := by
  refine EvN.more (lb_8 (f_149 hS hK) hR (fun F1 hS1 hR1 => r_353 hS1 hR1) (fun F2 X2 S2 N2 L2 d2 e2 a1 a2 a3 a4 a5 => next F2 X2 S2 N2 L2 d2 e2 a1 a2 a3 a4 a5))
theorem lc_9 (hS : St F) (hK : KC F X S N L d e) (hR : KR F X S N L d e) (hs : F 1000001 0 = (n : Int)) (hi : i + 5 ≤ n) (hn : n ≤ 2560)
    (next : ∀ F2 X S N L d e, St F2 → KC F2 X S N L d e → KR F2 X S N L d e → F2 1000000 = F 1000000 → F2 1000001 = F 1000001 → EvN kb 420 2515 (lloc i) [] F2 Q) : EvN (1 + kb) 420 799 (lloc i) [] F Q := by
  refine lb_9 (P := fun v => v = _) hs hi hn (w_395 (CaI.mono (f_150 hS hK) (fun _ _ _ h => h.eo) (fun _ _ _ h => h.et)) (fun r F1 hS1 h => ⟨_, rfl, wq_y hS1 h⟩) (fun t F1 hS1 h => et1 (pif_le (by decide) (by decide)) rfl hS1 h)) hR (fun v F1 hP hS1 hR1 => by rw [hP]; exact CaI.on (r_356 hS1 hR1) (fun _ _ _ h => h.er)) (fun F2 X2 S2 N2 L2 d2 e2 a1 a2 a3 a4 a5 => next F2 X2 S2 N2 L2 d2 e2 a1 a2 a3 a4 a5)
theorem lc_10 (hS : St F) (hK : KC F X S N L d e) (hR : KR F X S N L d e) (hs : F 1000001 0 = (n : Int)) (hi : i + 5 ≤ n) (hn : n ≤ 2560)
    (next : ∀ F2 X S N L d e, St F2 → KC F2 X S N L d e → KR F2 X S N L d e → F2 1000000 = F 1000000 → F2 1000001 = F 1000001 → EvN kb 420 2515 (lloc i) [] F2 Q) : EvN (1 + kb) 420 855 (lloc i) [] F Q := by
  refine lb_10 (P := fun v => v = _) hs hi hn (w_396 (CaI.mono (f_151 hS hK) (fun _ _ _ h => h.eo) (fun _ _ _ h => h.et)) (fun r F1 hS1 h => ⟨_, rfl, wq_y hS1 h⟩) (fun t F1 hS1 h => et1 (pif_le (by decide) (by decide)) rfl hS1 h)) hR (fun v F1 hP hS1 hR1 => by rw [hP]; exact CaI.on (r_357 hS1 hR1) (fun _ _ _ h => h.er)) (fun F2 X2 S2 N2 L2 d2 e2 a1 a2 a3 a4 a5 => next F2 X2 S2 N2 L2 d2 e2 a1 a2 a3 a4 a5)
theorem lc_11 (hS : St F) (hK : KC F X S N L d e) (hR : KR F X S N L d e) (hs : F 1000001 0 = (n : Int)) (hi : i + 5 ≤ n) (hn : n ≤ 2560)
    (next : ∀ F2 X S N L d e, St F2 → KC F2 X S N L d e → KR F2 X S N L d e → F2 1000000 = F 1000000 → F2 1000001 = F 1000001 → EvN kb 420 2515 (lloc i) [] F2 Q) : EvN (1 + kb) 420 923 (lloc i) [] F Q := by
  refine lb_11 (P := fun v => v = _) hs hi hn (w_397 (CaI.mono (f_152 hS hK) (fun _ _ _ h => h.eo) (fun _ _ _ h => h.et)) (fun r F1 hS1 h => ⟨_, rfl, wq_y hS1 h⟩) (fun t F1 hS1 h => et1 (pif_le (by decide) (by decide)) rfl hS1 h)) hR (fun v F1 hP hS1 hR1 => by rw [hP]; exact CaI.on (r_358 hS1 hR1) (fun _ _ _ h => h.er)) (fun F2 X2 S2 N2 L2 d2 e2 a1 a2 a3 a4 a5 => next F2 X2 S2 N2 L2 d2 e2 a1 a2 a3 a4 a5)
theorem lc_12 (hS : St F) (hK : KC F X S N L d e) (hR : KR F X S N L d e) (hs : F 1000001 0 = (n : Int)) (hi : i + 5 ≤ n) (hn : n ≤ 2560)
    (next : ∀ F2 X S N L d e, St F2 → KC F2 X S N L d e → KR F2 X S N L d e → F2 1000000 = F 1000000 → F2 1000001 = F 1000001 → EvN kb 420 2515 (lloc i) [] F2 Q) : EvN (1 + kb) 420 991 (lloc i) [] F Q := by
  refine lb_12 (P := fun v => v = _) hs hi hn (w_398 (CaI.mono (f_153 hS hK) (fun _ _ _ h => h.eo) (fun _ _ _ h => h.et)) (fun r F1 hS1 h => ⟨_, rfl, wq_y hS1 h⟩) (fun t F1 hS1 h => et1 (pif_le (by decide) (by decide)) rfl hS1 h)) hR (fun v F1 hP hS1 hR1 => by rw [hP]; exact CaI.on (r_359 hS1 hR1) (fun _ _ _ h => h.er)) (fun F2 X2 S2 N2 L2 d2 e2 a1 a2 a3 a4 a5 => next F2 X2 S2 N2 L2 d2 e2 a1 a2 a3 a4 a5)
theorem lc_13 (hS : St F) (hK : KC F X S N L d e) (hR : KR F X S N L d e) (hs : F 1000001 0 = (n : Int)) (hi : i + 5 ≤ n) (hn : n ≤ 2560)
    (next : ∀ F2 X S N L d e, St F2 → KC F2 X S N L d e → KR F2 X S N L d e → F2 1000000 = F 1000000 → F2 1000001 = F 1000001 → EvN kb 420 2515 (lloc i) [] F2 Q) : EvN (1 + kb) 420 1071 (lloc i) [] F Q := by
  refine lb_13 (P := fun v => v = _) hs hi hn (w_399 (CaI.mono (f_154 hS hK) (fun _ _ _ h => h.eo) (fun _ _ _ h => h.et)) (fun r F1 hS1 h => ⟨_, rfl, wq_y hS1 h⟩) (fun t F1 hS1 h => et1 (pif_le (by decide) (by decide)) rfl hS1 h)) hR (fun v F1 hP hS1 hR1 => by rw [hP]; exact CaI.on (r_360 hS1 hR1) (fun _ _ _ h => h.er)) (fun F2 X2 S2 N2 L2 d2 e2 a1 a2 a3 a4 a5 => next F2 X2 S2 N2 L2 d2 e2 a1 a2 a3 a4 a5)
theorem lc_14 (hS : St F) (hK : KC F X S N L d e) (hR : KR F X S N L d e) (hs : F 1000001 0 = (n : Int)) (hi : i + 5 ≤ n) (hn : n ≤ 2560)
    (next : ∀ F2 X S N L d e, St F2 → KC F2 X S N L d e → KR F2 X S N L d e → F2 1000000 = F 1000000 → F2 1000001 = F 1000001 → EvN kb 420 2515 (lloc i) [] F2 Q) : EvN (1 + kb) 420 1139 (lloc i) [] F Q := by
  refine lb_14 (P := fun v => v = _) hs hi hn (w_400 (CaI.mono (f_155 hS hK) (fun _ _ _ h => h.eo) (fun _ _ _ h => h.et)) (fun r F1 hS1 h => ⟨_, rfl, wq_y hS1 h⟩) (fun t F1 hS1 h => et1 (pif_le (by decide) (by decide)) rfl hS1 h)) hR (fun v F1 hP hS1 hR1 => by rw [hP]; exact CaI.on (r_361 hS1 hR1) (fun _ _ _ h => h.er)) (fun F2 X2 S2 N2 L2 d2 e2 a1 a2 a3 a4 a5 => next F2 X2 S2 N2 L2 d2 e2 a1 a2 a3 a4 a5)
theorem lc_15 (hS : St F) (hK : KC F X S N L d e) (hR : KR F X S N L d e) (hs : F 1000001 0 = (n : Int)) (hi : i + 5 ≤ n) (hn : n ≤ 2560)
    (next : ∀ F2 X S N L d e, St F2 → KC F2 X S N L d e → KR F2 X S N L d e → F2 1000000 = F 1000000 → F2 1000001 = F 1000001 → EvN kb 420 2515 (lloc i) [] F2 Q) : EvN (1 + kb) 420 1207 (lloc i) [] F Q := by
  refine lb_15 (P := fun v => v = _) hs hi hn (w_401 (CaI.mono (f_156 hS hK) (fun _ _ _ h => h.eo) (fun _ _ _ h => h.et)) (fun r F1 hS1 h => ⟨_, rfl, wq_y hS1 h⟩) (fun t F1 hS1 h => et1 (pif_le (by decide) (by decide)) rfl hS1 h)) hR (fun v F1 hP hS1 hR1 => by rw [hP]; exact CaI.on (r_362 hS1 hR1) (fun _ _ _ h => h.er)) (fun F2 X2 S2 N2 L2 d2 e2 a1 a2 a3 a4 a5 => next F2 X2 S2 N2 L2 d2 e2 a1 a2 a3 a4 a5)
theorem lc_16 (hS : St F) (hK : KC F X S N L d e) (hR : KR F X S N L d e) (hs : F 1000001 0 = (n : Int)) (hi : i + 5 ≤ n) (hn : n ≤ 2560)
    (next : ∀ F2 X S N L d e, St F2 → KC F2 X S N L d e → KR F2 X S N L d e → F2 1000000 = F 1000000 → F2 1000001 = F 1000001 → EvN kb 420 2515 (lloc i) [] F2 Q) : EvN (1 + kb) 420 1263 (lloc i) [] F Q := by
  refine lb_16 (P := fun v => v = _) hs hi hn (w_402 (CaI.mono (f_157 hS hK) (fun _ _ _ h => h.eo) (fun _ _ _ h => h.et)) (fun r F1 hS1 h => ⟨_, rfl, wq_y hS1 h⟩) (fun t F1 hS1 h => et1 (pif_le (by decide) (by decide)) rfl hS1 h)) hR (fun v F1 hP hS1 hR1 => by rw [hP]; exact CaI.on (r_364 hS1 hR1) (fun _ _ _ h => h.er)) (fun F2 X2 S2 N2 L2 d2 e2 a1 a2 a3 a4 a5 => next F2 X2 S2 N2 L2 d2 e2 a1 a2 a3 a4 a5)
theorem lc_17 (hS : St F) (hK : KC F X S N L d e) (hR : KR F X S N L d e) (hs : F 1000001 0 = (n : Int)) (hi : i + 5 ≤ n) (hn : n ≤ 2560)
    (next : ∀ F2 X S N L d e, St F2 → KC F2 X S N L d e → KR F2 X S N L d e → F2 1000000 = F 1000000 → F2 1000001 = F 1000001 → EvN kb 420 2515 (lloc i) [] F2 Q) : EvN (1 + kb) 420 1331 (lloc i) [] F Q := by
  refine lb_17 (P := fun v => isEr X (F 1000000 (i + 1)) (F 1000000 (i + 2)) → reC X (F 1000000 (i + 1)) (F 1000000 (i + 2)) v) (k := pif (isEr X (F 1000000 (i + 1)) (F 1000000 (i + 2))) 0 1) (X' := X) (S' := S) (N' := N) (L' := L) (d' := d) (e' := e) hs hi hn (w_403 (f_158 hS hK) (fun r F1 hS1 h => ⟨r, fun _ => h.1, wq_y hS1 ⟨pif_1 (rec_er h.1), rfl, h.2⟩⟩) (fun t F1 hS1 h => ⟨h.1, 0, fun hp => absurd hp h.2.1, wq_n hS1 (pif_0 h.2.1) (by decide) h.2.2.1 h.2.2.2⟩)) hR (fun v F1 hP hS1 hR1 => CaI.on (r_365 hS1 hR1 hP) (fun _ _ _ h => h.er)) (fun F2 X2 S2 N2 L2 d2 e2 a1 a2 a3 a4 a5 => next F2 X2 S2 N2 L2 d2 e2 a1 a2 a3 a4 a5)
theorem lc_18 (hS : St F) (hK : KC F X S N L d e) (hR : KR F X S N L d e) (hs : F 1000001 0 = (n : Int)) (hi : i + 5 ≤ n) (hn : n ≤ 2560)
    (next : ∀ F2 X S N L d e, St F2 → KC F2 X S N L d e → KR F2 X S N L d e → F2 1000000 = F 1000000 → F2 1000001 = F 1000001 → EvN kb 420 2515 (lloc i) [] F2 Q) : EvN (1 + kb) 420 1399 (lloc i) [] F Q := by
  refine lb_18 (P := fun v => v = _) hs hi hn (w_404 (CaL.mono (f_159 hS hK) (fun _ _ _ h => h.eo) (fun _ _ _ h => h.et)) (fun r F1 hS1 h => ⟨_, rfl, wq_y hS1 h⟩) (fun t F1 hS1 h => et1 (pif_le (by decide) (by decide)) rfl hS1 h)) hR (fun v F1 hP hS1 hR1 => by rw [hP]; exact CaL.on (r_366 hS1 hR1) (fun _ _ _ h => h.er)) (fun F2 X2 S2 N2 L2 d2 e2 a1 a2 a3 a4 a5 => next F2 X2 S2 N2 L2 d2 e2 a1 a2 a3 a4 a5)
theorem lc_19 (hS : St F) (hK : KC F X S N L d e) (hR : KR F X S N L d e) (hs : F 1000001 0 = (n : Int)) (hi : i + 5 ≤ n) (hn : n ≤ 2560)
    (next : ∀ F2 X S N L d e, St F2 → KC F2 X S N L d e → KR F2 X S N L d e → F2 1000000 = F 1000000 → F2 1000001 = F 1000001 → EvN kb 420 2515 (lloc i) [] F2 Q) : EvN (1 + kb) 420 1454 (lloc i) [] F Q := by
  refine lb_19 (P := fun v => v = _) hs hi hn (w_405 (CaI.mono (f_160 hS hK) (fun _ _ _ h => h.eo) (fun _ _ _ h => h.et)) (fun r F1 hS1 h => ⟨_, rfl, wq_y hS1 h⟩) (fun t F1 hS1 h => et1 (pif_le (by decide) (by decide)) rfl hS1 h)) hR (fun v F1 hP hS1 hR1 => by rw [hP]; exact CaI.on (r_367 hS1 hR1) (fun _ _ _ h => h.er)) (fun F2 X2 S2 N2 L2 d2 e2 a1 a2 a3 a4 a5 => next F2 X2 S2 N2 L2 d2 e2 a1 a2 a3 a4 a5)
theorem lc_20 (hS : St F) (hK : KC F X S N L d e) (hR : KR F X S N L d e) (hs : F 1000001 0 = (n : Int)) (hi : i + 5 ≤ n) (hn : n ≤ 2560)
    (next : ∀ F2 X S N L d e, St F2 → KC F2 X S N L d e → KR F2 X S N L d e → F2 1000000 = F 1000000 → F2 1000001 = F 1000001 → EvN kb 420 2515 (lloc i) [] F2 Q) : EvN (1 + kb) 420 1522 (lloc i) [] F Q := by
  refine lb_20 (P := fun v => v = _) hs hi hn (w_406 (CaI.mono (f_161 hS hK) (fun _ _ _ h => h.eo) (fun _ _ _ h => h.et)) (fun r F1 hS1 h => ⟨_, rfl, wq_y hS1 h⟩) (fun t F1 hS1 h => et1 (pif_le (by decide) (by decide)) rfl hS1 h)) hR (fun v F1 hP hS1 hR1 => by rw [hP]; exact CaI.on (r_368 hS1 hR1) (fun _ _ _ h => h.er)) (fun F2 X2 S2 N2 L2 d2 e2 a1 a2 a3 a4 a5 => next F2 X2 S2 N2 L2 d2 e2 a1 a2 a3 a4 a5)
theorem lc_21 (hS : St F) (hK : KC F X S N L d e) (hR : KR F X S N L d e) (hs : F 1000001 0 = (n : Int)) (hi : i + 5 ≤ n) (hn : n ≤ 2560)
    (next : ∀ F2 X S N L d e, St F2 → KC F2 X S N L d e → KR F2 X S N L d e → F2 1000000 = F 1000000 → F2 1000001 = F 1000001 → EvN kb 420 2515 (lloc i) [] F2 Q) : EvN (1 + kb) 420 1578 (lloc i) [] F Q := by
  refine lb_21 (P := fun v => v = _) hs hi hn (w_407 (CaI.mono (f_162 hS hK) (fun _ _ _ h => h.eo) (fun _ _ _ h => h.et)) (fun r F1 hS1 h => ⟨_, rfl, wq_y hS1 h⟩) (fun t F1 hS1 h => et1 (pif_le (by decide) (by decide)) rfl hS1 h)) hR (fun v F1 hP hS1 hR1 => by rw [hP]; exact CaI.on (r_369 hS1 hR1) (fun _ _ _ h => h.er)) (fun F2 X2 S2 N2 L2 d2 e2 a1 a2 a3 a4 a5 => next F2 X2 S2 N2 L2 d2 e2 a1 a2 a3 a4 a5)
theorem lc_22 (hS : St F) (hK : KC F X S N L d e) (hR : KR F X S N L d e) (hs : F 1000001 0 = (n : Int)) (hi : i + 5 ≤ n) (hn : n ≤ 2560)
    (next : ∀ F2 X S N L d e, St F2 → KC F2 X S N L d e → KR F2 X S N L d e → F2 1000000 = F 1000000 → F2 1000001 = F 1000001 → EvN kb 420 2515 (lloc i) [] F2 Q) : EvN (1 + kb) 420 1646 (lloc i) [] F Q := by
  refine lb_22 (P := fun v => v = _) hs hi hn (w_408 (CaI.mono (f_163 hS hK) (fun _ _ _ h => h.eo) (fun _ _ _ h => h.et)) (fun r F1 hS1 h => ⟨_, rfl, wq_y hS1 h⟩) (fun t F1 hS1 h => et1 (pif_le (by decide) (by decide)) rfl hS1 h)) hR (fun v F1 hP hS1 hR1 => by rw [hP]; exact CaI.on (r_370 hS1 hR1) (fun _ _ _ h => h.er)) (fun F2 X2 S2 N2 L2 d2 e2 a1 a2 a3 a4 a5 => next F2 X2 S2 N2 L2 d2 e2 a1 a2 a3 a4 a5)
theorem lc_23 (hS : St F) (hK : KC F X S N L d e) (hR : KR F X S N L d e) (hs : F 1000001 0 = (n : Int)) (hi : i + 5 ≤ n) (hn : n ≤ 2560)
    (next : ∀ F2 X S N L d e, St F2 → KC F2 X S N L d e → KR F2 X S N L d e → F2 1000000 = F 1000000 → F2 1000001 = F 1000001 → EvN kb 420 2515 (lloc i) [] F2 Q) : EvN (1 + kb) 420 1714 (lloc i) [] F Q := by
  refine lb_23 (P := fun v => v = _) hs hi hn (w_409 (CaI.mono (f_164 hS hK) (fun _ _ _ h => h.eo) (fun _ _ _ h => h.et)) (fun r F1 hS1 h => ⟨_, rfl, wq_y hS1 h⟩) (fun t F1 hS1 h => et1 (pif_le (by decide) (by decide)) rfl hS1 h)) hR (fun v F1 hP hS1 hR1 => by rw [hP]; exact CaI.on (r_371 hS1 hR1) (fun _ _ _ h => h.er)) (fun F2 X2 S2 N2 L2 d2 e2 a1 a2 a3 a4 a5 => next F2 X2 S2 N2 L2 d2 e2 a1 a2 a3 a4 a5)
theorem lc_24 (hS : St F) (hK : KC F X S N L d e) (hR : KR F X S N L d e) (hs : F 1000001 0 = (n : Int)) (hi : i + 5 ≤ n) (hn : n ≤ 2560)
    (next : ∀ F2 X S N L d e, St F2 → KC F2 X S N L d e → KR F2 X S N L d e → F2 1000000 = F 1000000 → F2 1000001 = F 1000001 → EvN kb 420 2515 (lloc i) [] F2 Q) : EvN (1 + kb) 420 1782 (lloc i) [] F Q := by
  refine lb_24 (P := fun v => v = _) hs hi hn (w_410 (CaI.mono (f_165 hS hK) (fun _ _ _ h => h.eo) (fun _ _ _ h => h.et)) (fun r F1 hS1 h => ⟨_, rfl, wq_y hS1 h⟩) (fun t F1 hS1 h => et1 (pif_le (by decide) (by decide)) rfl hS1 h)) hR (fun v F1 hP hS1 hR1 => by rw [hP]; exact CaI.on (r_372 hS1 hR1) (fun _ _ _ h => h.er)) (fun F2 X2 S2 N2 L2 d2 e2 a1 a2 a3 a4 a5 => next F2 X2 S2 N2 L2 d2 e2 a1 a2 a3 a4 a5)
theorem lc_25 (hS : St F) (hK : KC F X S N L d e) (hR : KR F X S N L d e) (hs : F 1000001 0 = (n : Int)) (hi : i + 5 ≤ n) (hn : n ≤ 2560)
    (next : ∀ F2 X S N L d e, St F2 → KC F2 X S N L d e → KR F2 X S N L d e → F2 1000000 = F 1000000 → F2 1000001 = F 1000001 → EvN kb 420 2515 (lloc i) [] F2 Q) : EvN (1 + kb) 420 1850 (lloc i) [] F Q := by
  refine EvN.more (lb_25 (f_166 hS hK) hR (fun F1 hS1 hR1 => r_373 hS1 hR1) (fun F2 X2 S2 N2 L2 d2 e2 a1 a2 a3 a4 a5 => next F2 X2 S2 N2 L2 d2 e2 a1 a2 a3 a4 a5))
theorem lc_26 (hS : St F) (hK : KC F X S N L d e) (hR : KR F X S N L d e) (hs : F 1000001 0 = (n : Int)) (hi : i + 5 ≤ n) (hn : n ≤ 2560)
    (next : ∀ F2 X S N L d e, St F2 → KC F2 X S N L d e → KR F2 X S N L d e → F2 1000000 = F 1000000 → F2 1000001 = F 1000001 → EvN kb 420 2515 (lloc i) [] F2 Q) : EvN (1 + kb) 420 1863 (lloc i) [] F Q := by
  refine lb_26 (P := fun v => v = _) hs hi hn (w_411 (CaI.mono (f_167 hS hK) (fun _ _ _ h => h.eo) (fun _ _ _ h => h.et)) (fun r F1 hS1 h => ⟨_, rfl, wq_y hS1 h⟩) (fun t F1 hS1 h => et1 (pif_le (by decide) (by decide)) rfl hS1 h)) hR (fun v F1 hP hS1 hR1 => by rw [hP]; exact CaI.on (r_374 hS1 hR1) (fun _ _ _ h => h.er)) (fun F2 X2 S2 N2 L2 d2 e2 a1 a2 a3 a4 a5 => next F2 X2 S2 N2 L2 d2 e2 a1 a2 a3 a4 a5)
theorem lc_27 (hS : St F) (hK : KC F X S N L d e) (hR : KR F X S N L d e) (hs : F 1000001 0 = (n : Int)) (hi : i + 5 ≤ n) (hn : n ≤ 2560)
    (next : ∀ F2 X S N L d e, St F2 → KC F2 X S N L d e → KR F2 X S N L d e → F2 1000000 = F 1000000 → F2 1000001 = F 1000001 → EvN kb 420 2515 (lloc i) [] F2 Q) : EvN (1 + kb) 420 1919 (lloc i) [] F Q := by
  refine lb_27 (P := fun v => v = _) hs hi hn (w_412 (f_168 hS hK) (fun r F1 hS1 h => ⟨_, rfl, wq_y hS1 h⟩) (fun t F1 hS1 h => etS (by unfold kSp; exact pif_le (pif_le (by decide) (by decide)) (by decide)) rfl hS1 h)) hR (fun v F1 hP hS1 hR1 => by rw [hP]; exact r_375 hS1 hR1) (fun F2 X2 S2 N2 L2 d2 e2 a1 a2 a3 a4 a5 => next F2 X2 S2 N2 L2 d2 e2 a1 a2 a3 a4 a5)
theorem lc_28 (hS : St F) (hK : KC F X S N L d e) (hR : KR F X S N L d e) (hs : F 1000001 0 = (n : Int)) (hi : i + 5 ≤ n) (hn : n ≤ 2560)
    (next : ∀ F2 X S N L d e, St F2 → KC F2 X S N L d e → KR F2 X S N L d e → F2 1000000 = F 1000000 → F2 1000001 = F 1000001 → EvN kb 420 2515 (lloc i) [] F2 Q) : EvN (1 + kb) 420 1977 (lloc i) [] F Q := by
  refine EvN.more (lb_28 (f_169 hS hK) hR (fun F1 hS1 hR1 => r_376 hS1 hR1) (fun F2 X2 S2 N2 L2 d2 e2 a1 a2 a3 a4 a5 => next F2 X2 S2 N2 L2 d2 e2 a1 a2 a3 a4 a5))
theorem lc_29 (hS : St F) (hK : KC F X S N L d e) (hR : KR F X S N L d e) (hs : F 1000001 0 = (n : Int)) (hi : i + 5 ≤ n) (hn : n ≤ 2560)
    (next : ∀ F2 X S N L d e, St F2 → KC F2 X S N L d e → KR F2 X S N L d e → F2 1000000 = F 1000000 → F2 1000001 = F 1000001 → EvN kb 420 2515 (lloc i) [] F2 Q) : EvN (1 + kb) 420 1990 (lloc i) [] F Q := by
  refine lb_29 (P := fun v => v = _) hs hi hn (w_413 (CaI.mono (f_170 hS hK) (fun _ _ _ h => h.eo) (fun _ _ _ h => h.et)) (fun r F1 hS1 h => ⟨_, rfl, wq_y hS1 h⟩) (fun t F1 hS1 h => et1 (pif_le (by decide) (by decide)) rfl hS1 h)) hR (fun v F1 hP hS1 hR1 => by rw [hP]; exact CaI.on (r_377 hS1 hR1) (fun _ _ _ h => h.er)) (fun F2 X2 S2 N2 L2 d2 e2 a1 a2 a3 a4 a5 => next F2 X2 S2 N2 L2 d2 e2 a1 a2 a3 a4 a5)
theorem lc_30 (hS : St F) (hK : KC F X S N L d e) (hR : KR F X S N L d e) (hs : F 1000001 0 = (n : Int)) (hi : i + 5 ≤ n) (hn : n ≤ 2560)
    (next : ∀ F2 X S N L d e, St F2 → KC F2 X S N L d e → KR F2 X S N L d e → F2 1000000 = F 1000000 → F2 1000001 = F 1000001 → EvN kb 420 2515 (lloc i) [] F2 Q) : EvN (1 + kb) 420 2058 (lloc i) [] F Q := by
  refine lb_30 (P := fun v => v = _) hs hi hn (w_414 (CaI.mono (f_171 hS hK) (fun _ _ _ h => h.eo) (fun _ _ _ h => h.et)) (fun r F1 hS1 h => ⟨_, rfl, wq_y hS1 h⟩) (fun t F1 hS1 h => et1 (pif_le (by decide) (by decide)) rfl hS1 h)) hR (fun v F1 hP hS1 hR1 => by rw [hP]; exact CaI.on (r_378 hS1 hR1) (fun _ _ _ h => h.er)) (fun F2 X2 S2 N2 L2 d2 e2 a1 a2 a3 a4 a5 => next F2 X2 S2 N2 L2 d2 e2 a1 a2 a3 a4 a5)
theorem lc_31 (hS : St F) (hK : KC F X S N L d e) (hR : KR F X S N L d e) (hs : F 1000001 0 = (n : Int)) (hi : i + 5 ≤ n) (hn : n ≤ 2560)
    (next : ∀ F2 X S N L d e, St F2 → KC F2 X S N L d e → KR F2 X S N L d e → F2 1000000 = F 1000000 → F2 1000001 = F 1000001 → EvN kb 420 2515 (lloc i) [] F2 Q) : EvN (1 + kb) 420 2138 (lloc i) [] F Q := by
  refine lb_31 (P := fun v => v = _) hs hi hn (w_415 (f_172 hS hK) (fun r F1 hS1 h => ⟨_, rfl, wq_y hS1 h⟩) (fun t F1 hS1 h => etP (by unfold kPl; exact pif_le (pif_le (by decide) (by decide)) (by decide)) rfl hS1 h)) hR (fun v F1 hP hS1 hR1 => by rw [hP]; exact r_380 hS1 hR1) (fun F2 X2 S2 N2 L2 d2 e2 a1 a2 a3 a4 a5 => next F2 X2 S2 N2 L2 d2 e2 a1 a2 a3 a4 a5)
theorem lc_32 (hS : St F) (hK : KC F X S N L d e) (hR : KR F X S N L d e) (hs : F 1000001 0 = (n : Int)) (hi : i + 5 ≤ n) (hn : n ≤ 2560)
    (next : ∀ F2 X S N L d e, St F2 → KC F2 X S N L d e → KR F2 X S N L d e → F2 1000000 = F 1000000 → F2 1000001 = F 1000001 → EvN kb 420 2515 (lloc i) [] F2 Q) : EvN (1 + kb) 420 2206 (lloc i) [] F Q := by
  refine lb_32 (P := fun v => v = _) hs hi hn (w_416 (f_173 hS hK) (fun r F1 hS1 h => ⟨_, rfl, wq_y hS1 h⟩) (fun t F1 hS1 h => etP (by unfold kPl; exact pif_le (pif_le (by decide) (by decide)) (by decide)) rfl hS1 h)) hR (fun v F1 hP hS1 hR1 => by rw [hP]; exact r_381 hS1 hR1) (fun F2 X2 S2 N2 L2 d2 e2 a1 a2 a3 a4 a5 => next F2 X2 S2 N2 L2 d2 e2 a1 a2 a3 a4 a5)
theorem lc_33 (hS : St F) (hK : KC F X S N L d e) (hR : KR F X S N L d e) (hs : F 1000001 0 = (n : Int)) (hi : i + 5 ≤ n) (hn : n ≤ 2560)
    (next : ∀ F2 X S N L d e, St F2 → KC F2 X S N L d e → KR F2 X S N L d e → F2 1000000 = F 1000000 → F2 1000001 = F 1000001 → EvN kb 420 2515 (lloc i) [] F2 Q) : EvN (1 + kb) 420 2274 (lloc i) [] F Q := by
  refine lb_33 (P := fun v => v = _) hs hi hn (w_417 (f_174 hS hK) (fun r F1 hS1 h => ⟨_, rfl, wq_y hS1 h⟩) (fun t F1 hS1 h => et3 (by unfold kMo; exact pif_le (pif_le (by decide) (pif_le (by decide) (by decide))) (by decide)) rfl hS1 h)) hR (fun v F1 hP hS1 hR1 => by rw [hP]; exact r_382 hS1 hR1) (fun F2 X2 S2 N2 L2 d2 e2 a1 a2 a3 a4 a5 => next F2 X2 S2 N2 L2 d2 e2 a1 a2 a3 a4 a5)
theorem lc_34 (hS : St F) (hK : KC F X S N L d e) (hR : KR F X S N L d e) (hs : F 1000001 0 = (n : Int)) (hi : i + 5 ≤ n) (hn : n ≤ 2560)
    (next : ∀ F2 X S N L d e, St F2 → KC F2 X S N L d e → KR F2 X S N L d e → F2 1000000 = F 1000000 → F2 1000001 = F 1000001 → EvN kb 420 2515 (lloc i) [] F2 Q) : EvN (1 + kb) 420 2354 (lloc i) [] F Q := by
  refine EvN.more (lb_34 (f_175 hS hK) hR (fun F1 hS1 hR1 => r3_383 hS1 hR1) (fun F2 X2 S2 N2 L2 d2 e2 a1 a2 a3 a4 a5 => next F2 X2 S2 N2 L2 d2 e2 a1 a2 a3 a4 a5))
theorem lc_35 (hS : St F) (hK : KC F X S N L d e) (hR : KR F X S N L d e) (hs : F 1000001 0 = (n : Int)) (hi : i + 5 ≤ n) (hn : n ≤ 2560)
    (next : ∀ F2 X S N L d e, St F2 → KC F2 X S N L d e → KR F2 X S N L d e → F2 1000000 = F 1000000 → F2 1000001 = F 1000001 → EvN kb 420 2515 (lloc i) [] F2 Q) : EvN (1 + kb) 420 2367 (lloc i) [] F Q := by
  refine EvN.more (lb_35 (f_176 hS hK) hR (fun F1 hS1 hR1 => r_384 hS1 hR1) (fun F2 X2 S2 N2 L2 d2 e2 a1 a2 a3 a4 a5 => next F2 X2 S2 N2 L2 d2 e2 a1 a2 a3 a4 a5))
theorem lc_36 (hS : St F) (hK : KC F X S N L d e) (hR : KR F X S N L d e) (hs : F 1000001 0 = (n : Int)) (hi : i + 5 ≤ n) (hn : n ≤ 2560)
    (next : ∀ F2 X S N L d e, St F2 → KC F2 X S N L d e → KR F2 X S N L d e → F2 1000000 = F 1000000 → F2 1000001 = F 1000001 → EvN kb 420 2515 (lloc i) [] F2 Q) : EvN (1 + kb) 420 2380 (lloc i) [] F Q := by
  refine lb_36 (P := fun v => v = _) hs hi hn (w_418 (f_177 hS hK) (fun r F1 hS1 h => ⟨_, rfl, wq_y hS1 h⟩) (fun t F1 hS1 h => etC (by unfold kCa; exact pif_le (by decide) (by decide)) rfl hS1 h)) hR (fun v F1 hP hS1 hR1 => by rw [hP]; exact r_386 hS1 hR1) (fun F2 X2 S2 N2 L2 d2 e2 a1 a2 a3 a4 a5 => next F2 X2 S2 N2 L2 d2 e2 a1 a2 a3 a4 a5)
theorem lc_37 (hS : St F) (hK : KC F X S N L d e) (hR : KR F X S N L d e) (hs : F 1000001 0 = (n : Int)) (hi : i + 5 ≤ n) (hn : n ≤ 2560)
    (next : ∀ F2 X S N L d e, St F2 → KC F2 X S N L d e → KR F2 X S N L d e → F2 1000000 = F 1000000 → F2 1000001 = F 1000001 → EvN kb 420 2515 (lloc i) [] F2 Q) : EvN (1 + kb) 420 2424 (lloc i) [] F Q := by
  refine lb_37 (P := fun v => v = _) hs hi hn (w_419 (CaL.mono (f_178 hS hK) (fun _ _ _ h => h.eo) (fun _ _ _ h => h.et)) (fun r F1 hS1 h => ⟨_, rfl, wq_y hS1 h⟩) (fun t F1 hS1 h => et1 (pif_le (by decide) (by decide)) rfl hS1 h)) hR (fun v F1 hP hS1 hR1 => by rw [hP]; exact CaL.on (r_290 hS1 hR1) (fun _ _ _ h => h.er)) (fun F2 X2 S2 N2 L2 d2 e2 a1 a2 a3 a4 a5 => next F2 X2 S2 N2 L2 d2 e2 a1 a2 a3 a4 a5)
theorem A_420_23 : At 420 23 [some (.iload 4, 0, 0, 0, 0), none, some (.aload_n 0, 0, 0, 0, 0), some (.arraylength, 0, 0, 0, 0), some (.iconst 5, 0, 0, 0, 0), some (.isub, 0, 0, 0, 0), some (.if_icmp .gt 2492, 0, 0, 0, 0), none, none, some (.aload_n 0, 0, 0, 0, 0), some (.iload 4, 0, 0, 0, 0), none, some (.iaload, 0, 0, 0, 0), some (.bipush 63, 0, 0, 0, 0), none, some (.iand, 0, 0, 0, 0), some (.tableswitch 2476 0 37 #[165, 259, 339, 419, 487, 543, 599, 679, 747, 760, 816, 884, 952, 1032, 1100, 1168, 1224, 1292, 1360, 1415, 1483, 1539, 1607, 1675, 1743, 1811, 1824, 1880, 1938, 1951, 2019, 2099, 2167, 2235, 2315, 2328, 2341, 2385], 0, 0, 0, 0), none, none] := At.of (by decide +kernel)
theorem A_420_2515 : At 420 2515 [some (.iinc 4 5, 0, 0, 0, 0), none, none, some (.goto (-2495), 0, 0, 0, 0), none, none] := At.of (by decide +kernel)
theorem A_420_2521 : At 420 2521 [some (.iconst 1, 0, 0, 0, 0), some (.ireturn, 2, 0, 0, 0)] := At.of (by decide +kernel)
/-- the loop: it ends with 1 -/
theorem l_420 (hn : n ≤ 2560) : ∀ (m i : Nat) (F : MF), n < i + 5 * m + 5 → i < 10000 → St F → (∃ X S N L d e, KC F X S N L d e ∧ KR F X S N L d e) → F 1000001 0 = (n : Int) → EvN m 420 23 (lloc i) [] F (fun o _ => o = (0, [(0, 1)])) := by
  intro m
  induction m with
  | zero =>
    intro i F hm hi1 hS _ hs
    refine n_iload A_420_23 rfl fun hA => n_aload_n hA rfl (by decide) fun hA => n_slen hA fun hA => n_iconst hA fun hA => n_isub hA (by rw [hs]; omega) fun hA => n_ic_gt hA (t := 2521) rfl (fun _ => n_iconst A_420_2521 fun hA => n_iret hA rfl rfl) (fun hle _ => absurd (by rw [hs]; omega) hle)
  | succ m ih =>
    intro i F hm hi1 hS hI hs
    refine n_iload A_420_23 rfl fun hA => n_aload_n hA rfl (by decide) fun hA => n_slen hA fun hA => n_iconst hA fun hA => n_isub hA (by rw [hs]; omega) fun hA => n_ic_gt hA (t := 2521) rfl (fun _ => n_iconst A_420_2521 fun hA => n_iret hA rfl rfl) (fun hle hA => ?_)
    rw [hs] at hle
    have hi : i + 5 ≤ n := by omega
    obtain ⟨X, S, N, L, d, e, hK, hR⟩ := hI
    rw [Nat.add_comm m 1]
    have next : ∀ F2 X S N L d e, St F2 → KC F2 X S N L d e → KR F2 X S N L d e → F2 1000000 = F 1000000 → F2 1000001 = F 1000001 → EvN m 420 2515 (lloc i) [] F2 (fun o _ => o = (0, [(0, 1)])) := fun F2 X S N L d e a1 a2 a3 a4 a5 => by
      have hw : w32 ((i : Int) + 5) = ((i + 5 : Nat) : Int) := by rw [w32_id (by omega)]; omega
      refine n_iinc A_420_2515 (lloc (i + 5)) rfl (by rw [hw]; rfl) fun hA => n_goto hA (t := 23) rfl ?_
      exact ih (i + 5) F2 (by omega) (by omega) a1 ⟨X, S, N, L, d, e, a2, a3⟩ (by rw [a5]; exact hs)
    have hb := and63 (F 1000000 i)
    refine n_aload_n hA rfl (by decide) fun hA => n_iload hA rfl fun hA => n_sld (F 1000000 i) hA (by rw [hs]; omega) (by rw [Int.toNat_natCast]) fun hA => n_bipush hA fun hA => n_iand hA fun hA => ?_
    by_cases x0 : m_and (F 1000000 i) 63 = 0
    · exact n_tsw hA (t := 204) (fun h => by rw [x0]; rfl) (lc_0 hS hK hR hs hi hn next)
    by_cases x1 : m_and (F 1000000 i) 63 = 1
    · exact n_tsw hA (t := 298) (fun h => by rw [x1]; rfl) (lc_1 hS hK hR hs hi hn next)
    by_cases x2 : m_and (F 1000000 i) 63 = 2
    · exact n_tsw hA (t := 378) (fun h => by rw [x2]; rfl) (lc_2 hS hK hR hs hi hn next)
    by_cases x3 : m_and (F 1000000 i) 63 = 3
    · exact n_tsw hA (t := 458) (fun h => by rw [x3]; rfl) (lc_3 hS hK hR hs hi hn next)
    by_cases x4 : m_and (F 1000000 i) 63 = 4
    · exact n_tsw hA (t := 526) (fun h => by rw [x4]; rfl) (lc_4 hS hK hR hs hi hn next)
    by_cases x5 : m_and (F 1000000 i) 63 = 5
    · exact n_tsw hA (t := 582) (fun h => by rw [x5]; rfl) (lc_5 hS hK hR hs hi hn next)
    by_cases x6 : m_and (F 1000000 i) 63 = 6
    · exact n_tsw hA (t := 638) (fun h => by rw [x6]; rfl) (lc_6 hS hK hR hs hi hn next)
    by_cases x7 : m_and (F 1000000 i) 63 = 7
    · exact n_tsw hA (t := 718) (fun h => by rw [x7]; rfl) (lc_7 hS hK hR hs hi hn next)
    by_cases x8 : m_and (F 1000000 i) 63 = 8
    · exact n_tsw hA (t := 786) (fun h => by rw [x8]; rfl) (lc_8 hS hK hR hs hi hn next)
    by_cases x9 : m_and (F 1000000 i) 63 = 9
    · exact n_tsw hA (t := 799) (fun h => by rw [x9]; rfl) (lc_9 hS hK hR hs hi hn next)
    by_cases x10 : m_and (F 1000000 i) 63 = 10
    · exact n_tsw hA (t := 855) (fun h => by rw [x10]; rfl) (lc_10 hS hK hR hs hi hn next)
    by_cases x11 : m_and (F 1000000 i) 63 = 11
    · exact n_tsw hA (t := 923) (fun h => by rw [x11]; rfl) (lc_11 hS hK hR hs hi hn next)
    by_cases x12 : m_and (F 1000000 i) 63 = 12
    · exact n_tsw hA (t := 991) (fun h => by rw [x12]; rfl) (lc_12 hS hK hR hs hi hn next)
    by_cases x13 : m_and (F 1000000 i) 63 = 13
    · exact n_tsw hA (t := 1071) (fun h => by rw [x13]; rfl) (lc_13 hS hK hR hs hi hn next)
    by_cases x14 : m_and (F 1000000 i) 63 = 14
    · exact n_tsw hA (t := 1139) (fun h => by rw [x14]; rfl) (lc_14 hS hK hR hs hi hn next)
    by_cases x15 : m_and (F 1000000 i) 63 = 15
    · exact n_tsw hA (t := 1207) (fun h => by rw [x15]; rfl) (lc_15 hS hK hR hs hi hn next)
    by_cases x16 : m_and (F 1000000 i) 63 = 16
    · exact n_tsw hA (t := 1263) (fun h => by rw [x16]; rfl) (lc_16 hS hK hR hs hi hn next)
    by_cases x17 : m_and (F 1000000 i) 63 = 17
    · exact n_tsw hA (t := 1331) (fun h => by rw [x17]; rfl) (lc_17 hS hK hR hs hi hn next)
    by_cases x18 : m_and (F 1000000 i) 63 = 18
    · exact n_tsw hA (t := 1399) (fun h => by rw [x18]; rfl) (lc_18 hS hK hR hs hi hn next)
    by_cases x19 : m_and (F 1000000 i) 63 = 19
    · exact n_tsw hA (t := 1454) (fun h => by rw [x19]; rfl) (lc_19 hS hK hR hs hi hn next)
    by_cases x20 : m_and (F 1000000 i) 63 = 20
    · exact n_tsw hA (t := 1522) (fun h => by rw [x20]; rfl) (lc_20 hS hK hR hs hi hn next)
    by_cases x21 : m_and (F 1000000 i) 63 = 21
    · exact n_tsw hA (t := 1578) (fun h => by rw [x21]; rfl) (lc_21 hS hK hR hs hi hn next)
    by_cases x22 : m_and (F 1000000 i) 63 = 22
    · exact n_tsw hA (t := 1646) (fun h => by rw [x22]; rfl) (lc_22 hS hK hR hs hi hn next)
    by_cases x23 : m_and (F 1000000 i) 63 = 23
    · exact n_tsw hA (t := 1714) (fun h => by rw [x23]; rfl) (lc_23 hS hK hR hs hi hn next)
    by_cases x24 : m_and (F 1000000 i) 63 = 24
    · exact n_tsw hA (t := 1782) (fun h => by rw [x24]; rfl) (lc_24 hS hK hR hs hi hn next)
    by_cases x25 : m_and (F 1000000 i) 63 = 25
    · exact n_tsw hA (t := 1850) (fun h => by rw [x25]; rfl) (lc_25 hS hK hR hs hi hn next)
    by_cases x26 : m_and (F 1000000 i) 63 = 26
    · exact n_tsw hA (t := 1863) (fun h => by rw [x26]; rfl) (lc_26 hS hK hR hs hi hn next)
    by_cases x27 : m_and (F 1000000 i) 63 = 27
    · exact n_tsw hA (t := 1919) (fun h => by rw [x27]; rfl) (lc_27 hS hK hR hs hi hn next)
    by_cases x28 : m_and (F 1000000 i) 63 = 28
    · exact n_tsw hA (t := 1977) (fun h => by rw [x28]; rfl) (lc_28 hS hK hR hs hi hn next)
    by_cases x29 : m_and (F 1000000 i) 63 = 29
    · exact n_tsw hA (t := 1990) (fun h => by rw [x29]; rfl) (lc_29 hS hK hR hs hi hn next)
    by_cases x30 : m_and (F 1000000 i) 63 = 30
    · exact n_tsw hA (t := 2058) (fun h => by rw [x30]; rfl) (lc_30 hS hK hR hs hi hn next)
    by_cases x31 : m_and (F 1000000 i) 63 = 31
    · exact n_tsw hA (t := 2138) (fun h => by rw [x31]; rfl) (lc_31 hS hK hR hs hi hn next)
    by_cases x32 : m_and (F 1000000 i) 63 = 32
    · exact n_tsw hA (t := 2206) (fun h => by rw [x32]; rfl) (lc_32 hS hK hR hs hi hn next)
    by_cases x33 : m_and (F 1000000 i) 63 = 33
    · exact n_tsw hA (t := 2274) (fun h => by rw [x33]; rfl) (lc_33 hS hK hR hs hi hn next)
    by_cases x34 : m_and (F 1000000 i) 63 = 34
    · exact n_tsw hA (t := 2354) (fun h => by rw [x34]; rfl) (lc_34 hS hK hR hs hi hn next)
    by_cases x35 : m_and (F 1000000 i) 63 = 35
    · exact n_tsw hA (t := 2367) (fun h => by rw [x35]; rfl) (lc_35 hS hK hR hs hi hn next)
    by_cases x36 : m_and (F 1000000 i) 63 = 36
    · exact n_tsw hA (t := 2380) (fun h => by rw [x36]; rfl) (lc_36 hS hK hR hs hi hn next)
    by_cases x37 : m_and (F 1000000 i) 63 = 37
    · exact n_tsw hA (t := 2424) (fun h => by rw [x37]; rfl) (lc_37 hS hK hR hs hi hn next)
    exact n_tsw hA (t := 2515) (fun h => by rw [if_pos (Or.inr (by omega))]; exact m_goT rfl) (EvN.more (next F X S N L d e hS hK hR rfl rfl))
end Moe
