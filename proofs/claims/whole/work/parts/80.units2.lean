/-! READING, OF THE REFERENCE: a unit is taken -/
section M80
variable {F F' : MF} {K : List Int} {n0 lo hi v N q m s dep a : Nat} {C0 C W Wt V : List Int} {f : Int} {l : Lv} {r : List Lv}
/-- the row of classes, with its ends -/
def SQ (F : MF) (K : List Int) : Prop := ∀ i, i < K.length + 3 → F 220 i = kn K i
/-- a unit is due -/
def EW (F : MF) (K : List Int) (n0 : Nat) (C0 : List Int) (L : List Lv) (a N : Nat) (C : List Int) : Prop :=
  (∃ (s0 q0 lo0 : Nat) (W0 : List Int) (s q : Nat), LvB F K n0 C0 L s0 q0 lo0 W0 ∧ PE F K s0 q0 lo0 W0 (pl (hdl L)) s q N C ∧ F 201 51 = (s : Int) ∧ F 201 53 = (q : Int)) ∧ F 201 27 = (N : Int) ∧ F 201 54 = ((L.length - 1 : Nat) : Int) ∧ F 201 60 = nts (hdl L) ∧ F 201 26 = (a : Int) ∧ F 201 58 = 0
/-- behind a unit -/
def EHs (F : MF) (K : List Int) (n0 : Nat) (C0 : List Int) (L : List Lv) (a N : Nat) (C : List Int) : Prop :=
  EHb F K n0 C0 L N (C ++ wd 16 (nts (hdl L))) ∧ F 201 54 = ((L.length - 1 : Nat) : Int) ∧ F 201 60 = -1 ∧ F 201 26 = (a : Int) ∧ F 201 58 = 0
theorem LvB.z {L : List Lv} (h : LvB F K n0 C0 L s q lo W) (z : ∀ c, c ≠ 201 → F' c = F c) : LvB F' K n0 C0 L s q lo W :=
  LvB.cong _ _ _ _ _ h (fun i _ => by rw [z 238 (by decide)]) (fun i _ => by rw [z 239 (by decide)]) (fun c i x y _ => by rw [z c (by omega)]) (fun c i x y _ => by rw [z c (by omega)])
theorem PE.z {s0 q0 lo0 : Nat} {W0 : List Int} {ps : List Nat} (h : PE F K s0 q0 lo0 W0 ps s q hi W) (z : ∀ c, c ≠ 201 → F' c = F c) : PE F' K s0 q0 lo0 W0 ps s q hi W :=
  (PE.cong _ _ _ _ _ h (fun i _ _ => by rw [z 238 (by decide)]) (fun i _ _ => by rw [z 239 (by decide)]) (fun c i x y _ => by rw [z c (by omega)])).1
/-- ! -/
theorem t_bang (h : EW F K n0 C0 (l :: r) a N C) : EW (m_up (m_up F 201 60 (a : Int)) 201 26 ((a : Int) + 1)) K n0 C0 ((shp l, opn l, szs l, (a : Int), tms l, ads l, cps l) :: r) (a + 1) N C := by
  obtain ⟨⟨s0, q0, lo0, W0, s, q, h1, h2, h3, h4⟩, h5, h6, h7, h8, h9⟩ := h
  have z : ∀ c, c ≠ 201 → m_up (m_up F 201 60 (a : Int)) 201 26 ((a : Int) + 1) c = F c := fun c hc => by rw [up_row hc, up_row hc]
  have w : ∀ j, j ≠ 60 → j ≠ 26 → m_up (m_up F 201 60 (a : Int)) 201 26 ((a : Int) + 1) 201 j = F 201 j := fun j x y => by rw [u_ne (Or.inr y), u_ne (Or.inr x)]
  refine ⟨⟨s0, q0, lo0, W0, s, q, h1.z z, h2.z z, (w 51 (by decide) (by decide)).trans h3, (w 53 (by decide) (by decide)).trans h4⟩, (w 27 (by decide) (by decide)).trans h5, (w 54 (by decide) (by decide)).trans h6, ?_, ?_, (w 58 (by decide) (by decide)).trans h9⟩
  · rw [u_ne (Or.inr (by decide)), u_eq]
    rfl
  · rw [u_eq]
    omega
/-- ( -/
theorem t_open (hS : St F) (h : EW F K n0 C0 (l :: r) a N C) (hr : r.length + 1 < 210) (hs : ∀ s : Nat, F 201 51 = (s : Int) → s < 420) (ha : a < 1000) {R : Int → MF → Prop}
    (hR : ∀ F', St F' → EW F' K n0 C0 (lv0 1 a :: l :: r) (a + 1) N C → Cz n0 F F' → (∀ j, j ≠ 26 → j ≠ 51 → j ≠ 54 → j ≠ 60 → F' 201 j = F 201 j) → R 1 F') :
    C_228 (-1) F (fun F16 => (0 ≤ (F16 201 54) ∧ (F16 201 54) < 210) ∧ (-2147483648 ≤ ((F16 201 26) + 1) ∧ ((F16 201 26) + 1) < 2147483648) ∧ R 1 (m_up (m_up F16 244 (F16 201 54).toNat (F16 201 26)) 201 26 ((F16 201 26) + 1))) m_no := by
  obtain ⟨⟨s0, q0, lo0, W0, s, q, h1, h2, h3, h4⟩, h5, h6, h7, h8, h9⟩ := h
  change F 201 54 = ((r.length : Nat) : Int) at h6
  change F 201 60 = nts l at h7
  refine CaV.on (s_228 hS h6 h3 h7 hr (hs s h3)) ?_
  rintro F1 hS1 ⟨⟨k1, k2, k3⟩, ⟨k4, k5, k6, k7⟩, k8, k9, k10⟩
  have k26 : F1 201 26 = (a : Int) := (k9 26 (by decide) (by decide) (by decide)).trans h8
  rw [k1, k26, Int.toNat_natCast]
  refine ⟨by omega, by omega, ?_⟩
  obtain ⟨F2, d2⟩ : ∃ F2, F2 = m_up (m_up F1 244 (r.length + 1) (a : Int)) 201 26 ((a : Int) + 1) := ⟨_, rfl⟩
  rw [← d2]
  have hS2 : St F2 := by rw [d2]; exact (hS1.arr kd_244 (by decide)).fld kd_201 rk_12_26
  have z : ∀ c i, c ≠ 201 → ¬ (c = 244 ∧ i = r.length + 1) → F2 c i = F1 c i := fun c i x y => by rw [d2, u_ne (by omega), u_ne (by omega)]
  have w : ∀ j, j ≠ 26 → F2 201 j = F1 201 j := fun j x => by rw [d2, u_ne (by omega), u_ne (by omega)]
  have b : ∀ c i, c ≠ 201 → ¬ (c = 238 ∧ i = s) → ¬ (240 ≤ c ∧ c ≤ 244 ∧ i = r.length + 1) → F2 c i = F c i := fun c i x y u => (z c i x (by omega)).trans (k10 c i x y (by omega))
  have g := PE.rng _ _ _ _ _ h2
  have ag : ∀ M, Agf F F2 M := fun M c i x y _ => b c i (by omega) (by omega) (by omega)
  have l1 : LvB F2 K n0 C0 (l :: r) s0 q0 lo0 W0 := LvB.cong _ _ _ _ _ h1 (fun i hi => b 238 i (by omega) (by omega) (by omega)) (fun i hi => b 239 i (by omega) (by omega) (by omega)) (ag _) (fun c i x y hi => b c i (by omega) (by omega) (by rw [List.length_cons] at hi; omega))
  have l2 := (PE.cong (F' := F2) _ _ _ _ _ h2 (fun i _ hi => b 238 i (by omega) (by omega) (by omega)) (fun i _ _ => b 239 i (by omega) (by omega) (by omega)) (ag _)).1
  refine hR F2 hS2 ⟨⟨s + 1, q, N, C, s + 1, q, ⟨?_, Or.inr ⟨s0, q0, lo0, s, N, W0, C, l1, l2, ?_, rfl, ?_, Or.inl ⟨rfl, ?_, ?_, rfl, rfl⟩⟩⟩, ⟨rfl, rfl, rfl, rfl⟩, ?_, ?_⟩, ?_, ?_, ?_, ?_, ?_⟩ ⟨ag n0, fun c hc => funext fun i => b c i (fun e => hc (Or.inl e)) (fun e => hc (by omega)) (fun e => hc (by omega))⟩ (fun j x y u t => by rw [w j x, k9 j y u t])
  · show F2 242 (r.length + 1) = 0
    rw [z 242 _ (by decide) (by omega)]; exact k6
  · rw [z 238 _ (by decide) (by omega)]; exact k8
  · show F2 243 (r.length + 1) = nts l
    rw [z 243 _ (by decide) (by omega)]; exact k7
  · show F2 240 (r.length + 1) = -1
    rw [z 240 _ (by decide) (by omega)]; exact k4
  · show F2 244 (r.length + 1) = (a : Int)
    rw [d2, u_ne (by omega), u_eq]
  · rw [w 51 (by decide)]; exact k2
  · rw [w 53 (by decide), k9 53 (by decide) (by decide) (by decide)]; exact h4
  · rw [w 27 (by decide), k9 27 (by decide) (by decide) (by decide)]; exact h5
  · rw [w 54 (by decide)]; exact k1
  · rw [w 60 (by decide)]; exact k3
  · rw [d2, u_eq]; omega
  · rw [w 58 (by decide), k9 58 (by decide) (by decide) (by decide)]; exact h9
end M80
