/-! STRINGS OF THE JDK, AND THE CLASS OF A WORD -/
theorem m_ct_and : (List.range 29).all (fun y => (m_ct (y + 5)).all (fun b => decide (m_and b 255 = b ∧ 0 ≤ b ∧ b < 128))) = true := by decide +kernel
theorem m_ct_at {y j : Nat} (hy : y < 29) (hj : j < (m_ct (y + 5)).length) : m_and (gx (m_ct (y + 5)) j) 255 = gx (m_ct (y + 5)) j ∧ 0 ≤ gx (m_ct (y + 5)) j ∧ gx (m_ct (y + 5)) j < 128 :=
  of_decide_eq_true (List.all_eq_true.mp (List.all_eq_true.mp m_ct_and y (List.mem_range.mpr hy)) _ (gx_mem hj))
theorem m_shr0 (x : Int) : m_shr x 0 = x := by
  unfold m_shr
  show x / 2 ^ 0 = x
  rw [show (2 : Int) ^ 0 = 1 from rfl, Int.ediv_one]
theorem q_421 {F : MF} {y : Nat} : g_421 F y = ((m_ct (y + 5)).length : Int) := by
  unfold g_421 g_425
  exact m_shr0 _
theorem ob_421 {F : MF} {y : Nat} (hy : y < 29) : o_421 F y := by
  unfold o_421 g_425
  exact ⟨by omega, by omega, trivial⟩
section M53
variable {F : MF}
theorem s_427 {j k : Int} (hS : St F) (h : 0 ≤ j ∧ j < k) : C_427 j k F (fun F' => F' = F) m_no :=
  c_427 hS (c_432 hS ⟨fun _ => by omega, fun _ => ⟨fun _ => rfl, fun _ => by omega⟩⟩)
theorem s_422 {y j : Nat} (hS : St F) (hy : y < 29) (hj : j < (m_ct (y + 5)).length) : C_422 y j F (fun r F' => r = gx (m_ct (y + 5)) j ∧ F' = F) m_no := by
  obtain ⟨h1, h2, h3⟩ := m_ct_at hy hj
  refine c_422 hS ⟨fun _ => ?_, fun h => absurd trivial h⟩
  refine c_428 hS ⟨by omega, CaV.on (s_427 hS (by omega)) ?_⟩
  rintro F1 hS1 rfl
  rw [Int.toNat_natCast]
  unfold gx at h1 h2 h3
  rw [h1]
  refine ⟨by omega, by omega, by omega, by omega, by omega, rfl, rfl⟩
def kst (k : Nat) : Nat := ([0, 0, 0, 3, 5, 8, 10, 14, 17, 20] : List Nat).getD k 0
theorem kst_at : ∀ k : Nat, k < 10 → 2 ≤ k → (m_ct 2).getD (((k : Nat) : Int) - 2).toNat 0 = ((kst k : Nat) : Int) ∧ (m_ct 2).getD (((k : Nat) : Int) - 2 + 1).toNat 0 = ((kst k + (kwt k).length : Nat) : Int) ∧ kst k + (kwt k).length ≤ 22 ∧ ∀ j : Nat, j < (kwt k).length → (m_ct 4).getD (kst k + j) 0 = gx (kwt k) j := by decide +kernel
theorem l_195b {n z a s y k : Nat} {w v : List Int} {R : Int → MF → Prop} {T : Nat → MF → Prop} (hk : m_KD[n]? = some (102, z)) (hS : St F) (hw : w.length = s) (hs : s = v.length) (hy : y + s ≤ 22) (hc : ∀ j : Nat, j < s → (m_ct 4).getD (y + j) 0 = gx v j) (hz : a + s ≤ z) (hz2 : z < 10000) (hk2 : k < 100)
    (hv : ∀ i, i < s → F n (a + i) = gx w i) (hyes : w = v → R (k : Int) F) (hno : w ≠ v → L_195_2 n (a : Int) (s : Int) ((k : Int) + 1) F R T) :
    ∀ d j : Nat, j + d = s → (∀ i, i < j → gx w i = gx v i) → L_195_59 n (a : Int) (s : Int) (k : Int) ((y : Nat) : Int) 1 (j : Int) F R T := by
  intro d
  induction d with
  | zero =>
    intro j hj hi
    refine b_195_59 hk hS ⟨fun h0 => absurd h0 (by decide), fun _ => ⟨fun h1 => by omega, fun _ => ?_⟩⟩
    exact hyes (gx_ext (by omega) (fun i h => hi i (by omega)))
  | succ d ih =>
    intro j hj hi
    refine b_195_59 hk hS ⟨fun h0 => absurd h0 (by decide), fun _ => ⟨fun h1 => ?_, fun h1 => by omega⟩⟩
    have e1 : ((y : Int) + (j : Int)).toNat = y + j := by omega
    have e2 : ((a : Int) + (j : Int)).toNat = a + j := by omega
    rw [e1, e2, hv j (by omega), hc j (by omega)]
    refine ⟨by omega, by omega, by omega, by omega, ⟨fun h2 => ⟨by omega, ?_⟩, fun h2 => ⟨by omega, ?_⟩⟩⟩
    · refine ih (j + 1) (by omega) (fun i hij => ?_)
      by_cases e : i = j
      · rw [e]; exact h2.symm
      · exact hi i (by omega)
    · refine b_195_59 hk hS ⟨fun _ => ⟨by omega, hno (fun e => h2 (by rw [e]))⟩, fun h3 => absurd rfl h3⟩
theorem l_195k {n z a s k : Nat} {w : List Int} {R : Int → MF → Prop} {T : Nat → MF → Prop} (hk : m_KD[n]? = some (102, z)) (hS : St F) (hk2 : 2 ≤ k ∧ k ≤ 9) (hw : w.length = s) (hz : a + s ≤ z) (hz2 : z < 10000)
    (hv : ∀ i, i < s → F n (a + i) = gx w i) (hyes : w = kwt k → R (k : Int) F) (hno : w ≠ kwt k → L_195_2 n (a : Int) (s : Int) ((k : Int) + 1) F R T) : L_195_2 n (a : Int) (s : Int) (k : Int) F R T := by
  obtain ⟨h1, h2, h3, h4⟩ := kst_at k (by omega) hk2.1
  refine b_195_2 hk hS ⟨fun h => by omega, fun _ => ?_⟩
  rw [h1, h2]
  refine ⟨by omega, by omega, by omega, by omega, by omega, by omega, ⟨fun e => ⟨fun h => by omega, fun _ => ⟨by omega, ⟨fun h => by omega, fun _ => ?_⟩⟩⟩, fun e => ?_⟩⟩
  · exact l_195b (y := kst k) (w := w) (v := kwt k) hk hS hw (by omega) (by omega) (fun j hj => h4 j (by omega)) hz hz2 (by omega) hv hyes hno s 0 (by omega) (fun i h => absurd h (Nat.not_lt_zero i))
  · exact b_195_59 hk hS ⟨fun _ => ⟨by omega, hno (fun e2 => e (by rw [← hw, e2]; omega))⟩, fun h3 => absurd rfl h3⟩
theorem s_195 {n z a s : Nat} {w : List Int} (hk : m_KD[n]? = some (102, z)) (hS : St F) (hw : w.length = s) (hz : a + s ≤ z) (hz2 : z < 10000) (hv : ∀ i, i < s → F n (a + i) = gx w i) :
    C_195 n (a : Int) (s : Int) F (fun r F' => r = kwd w ∧ F' = F) m_no := by
  refine c_195 hk hS ?_
  unfold kwd
  refine l_195k (k := 2) hk hS (by omega) hw hz hz2 hv (fun e => ⟨by rw [if_pos e]; rfl, rfl⟩) (fun e2 => ?_)
  rw [if_neg e2]
  refine l_195k (k := 3) hk hS (by omega) hw hz hz2 hv (fun e => ⟨by rw [if_pos e]; rfl, rfl⟩) (fun e2 => ?_)
  rw [if_neg e2]
  refine l_195k (k := 4) hk hS (by omega) hw hz hz2 hv (fun e => ⟨by rw [if_pos e]; rfl, rfl⟩) (fun e2 => ?_)
  rw [if_neg e2]
  refine l_195k (k := 5) hk hS (by omega) hw hz hz2 hv (fun e => ⟨by rw [if_pos e]; rfl, rfl⟩) (fun e2 => ?_)
  rw [if_neg e2]
  refine l_195k (k := 6) hk hS (by omega) hw hz hz2 hv (fun e => ⟨by rw [if_pos e]; rfl, rfl⟩) (fun e2 => ?_)
  rw [if_neg e2]
  refine l_195k (k := 7) hk hS (by omega) hw hz hz2 hv (fun e => ⟨by rw [if_pos e]; rfl, rfl⟩) (fun e2 => ?_)
  rw [if_neg e2]
  refine l_195k (k := 8) hk hS (by omega) hw hz hz2 hv (fun e => ⟨by rw [if_pos e]; rfl, rfl⟩) (fun e2 => ?_)
  rw [if_neg e2]
  refine l_195k (k := 9) hk hS (by omega) hw hz hz2 hv (fun e => ⟨by rw [if_pos e]; rfl, rfl⟩) (fun e2 => ?_)
  rw [if_neg e2]
  exact b_195_2 hk hS ⟨fun _ => ⟨rfl, rfl⟩, fun h => absurd (by decide) h⟩
/-- the place of a sign in the row of signs -/
theorem sgc_at : ∀ i, i < 13 → sgc (gx (m_ct 3) i) = 10 + (i : Int) := by decide +kernel
theorem sgc_no {c : Int} (h : ∀ i, i < 13 → gx (m_ct 3) i ≠ c) : sgc c = 23 := by
  have e : ∀ i, i < 13 → c ≠ gx (m_ct 3) i := fun i hi e => h i hi e.symm
  have a0 : c ≠ 40 := e 0 (by decide)
  have a1 : c ≠ 41 := e 1 (by decide)
  have a2 : c ≠ 123 := e 2 (by decide)
  have a3 : c ≠ 125 := e 3 (by decide)
  have a4 : c ≠ 44 := e 4 (by decide)
  have a5 : c ≠ 59 := e 5 (by decide)
  have a6 : c ≠ 61 := e 6 (by decide)
  have a7 : c ≠ 32 := e 7 (by decide)
  have a8 : c ≠ 60 := e 8 (by decide)
  have a9 : c ≠ 43 := e 9 (by decide)
  have b0 : c ≠ 45 := e 10 (by decide)
  have b1 : c ≠ 42 := e 11 (by decide)
  have b2 : c ≠ 33 := e 12 (by decide)
  unfold sgc
  simp only [if_neg a0, if_neg a1, if_neg a2, if_neg a3, if_neg a4, if_neg a5, if_neg a6, if_neg a7, if_neg a8, if_neg a9, if_neg b0, if_neg b1, if_neg b2]
theorem l_194 (hS : St F) (x0 : Int) : ∀ d j : Nat, j + d = 13 → (∀ i, i < j → gx (m_ct 3) i ≠ x0) → L_194_2 x0 (j : Int) F (fun r F' => r = sgc x0 ∧ F' = F) m_no := by
  intro d
  induction d with
  | zero =>
    intro j hj hi
    exact b_194_2 hS ⟨fun h => by omega, fun _ => ⟨(sgc_no (fun i h => hi i (by omega))).symm, rfl⟩⟩
  | succ d ih =>
    intro j hj hi
    refine b_194_2 hS ⟨fun _ => ⟨by omega, ⟨fun h2 => ⟨by omega, ?_, rfl⟩, fun h2 => ⟨by omega, ?_⟩⟩⟩, fun h => by omega⟩
    · rw [Int.toNat_natCast] at h2
      rw [← h2]
      exact (sgc_at j (by omega)).symm
    · rw [Int.toNat_natCast] at h2
      refine ih (j + 1) (by omega) (fun i hij => ?_)
      by_cases e : i = j
      · rw [e]; exact h2
      · exact hi i (by omega)
theorem s_194 {c : Int} (hS : St F) : C_194 c F (fun r F' => r = sgc c ∧ F' = F) m_no :=
  c_194 hS (l_194 hS c 13 0 rfl (fun i h => absurd h (Nat.not_lt_zero i)))
theorem spn_cons {p : Int → Bool} {c : Int} {t : List Int} : spn p (c :: t) = if p c = true then 1 + spn p t else 0 := rfl
/-- how long a token is -/
theorem p196 {c : Int} : p_196 F c ↔ isL c = true := by
  unfold isL p_196
  rw [decide_eq_true_iff]
  omega
theorem p197 {c : Int} : p_197 F c ↔ isD c = true := by
  unfold isD p_197
  rw [decide_eq_true_iff]
  omega
variable {n r c : Nat} {X : Nat → List Int}
theorem l_115 (p : Int → Bool) {x3 : Int} (hn : n ∈ m_I2) (hS : St F) (h : LinC F n X) (hr : r < 24) (hp : (p = isL ∧ isL x3 = true) ∨ (p = isD ∧ isL x3 = false)) :
    ∀ d i : Nat, i + d = (X r).length → c ≤ i → L_115_56 n (r : Int) (c : Int) x3 ((i : Int) - (c : Int)) (i : Int) F (fun x F' => x = (i : Int) - (c : Int) + (spn p ((X r).drop i) : Nat) ∧ F' = F) m_no := by
  intro d
  induction d with
  | zero =>
    intro i hi hc
    have hle := h.le hr
    refine b_115_56 hn hS ⟨fun h1 => ?_, fun _ => ⟨?_, rfl⟩⟩
    · rw [q_21 h hr] at h1
      omega
    · rw [List.drop_eq_nil_of_le (by omega)]
      unfold spn
      omega
  | succ d ih =>
    intro i hi hc
    have hle := h.le hr
    have hd := drop_cons (l := X r) (j := i) (by omega)
    have hsp : spn p ((X r).drop i) = if p (gx (X r) i) = true then 1 + spn p ((X r).drop (i + 1)) else 0 := by
      rw [hd]
      rfl
    have hgo : p (gx (X r) i) = true → L_115_56 n (r : Int) (c : Int) x3 ((i : Int) - (c : Int) + 1) ((i : Int) + 1) F (fun x F' => x = (i : Int) - (c : Int) + (spn p ((X r).drop i) : Nat) ∧ F' = F) m_no := fun hq => by
      have := ih (i + 1) (by omega) (by omega)
      rw [show (((i + 1 : Nat)) : Int) - (c : Int) = (i : Int) - (c : Int) + 1 by omega, show (((i + 1 : Nat)) : Int) = (i : Int) + 1 by omega] at this
      refine EvI.mono this ?_ (fun _ _ _ h => h)
      rintro x F' _ ⟨rfl, rfl⟩
      rw [hsp, if_pos hq]
      exact ⟨by omega, rfl⟩
    have hst : p (gx (X r) i) ≠ true → L_115_56 n (r : Int) (c : Int) x3 ((i : Int) - (c : Int)) ((i : Int) + 1) F (fun x F' => x = (i : Int) - (c : Int) + (spn p ((X r).drop i) : Nat) ∧ F' = F) m_no := fun hq => by
      rw [hsp, if_neg hq]
      refine b_115_56 hn hS ⟨fun _ => ⟨by omega, ⟨fun h2 => by omega, fun _ => ⟨by omega, rfl⟩⟩⟩, fun _ => ⟨by omega, rfl⟩⟩
    refine b_115_56 hn hS ⟨fun _ => ⟨by omega, ⟨fun _ => ⟨ob_22 h hr _, ?_⟩, fun h2 => absurd rfl h2⟩⟩, fun h1 => ?_⟩
    · rw [q_22 h hr, sgn_in (by omega)]
      refine ⟨fun h1 => ?_, fun h1 => ?_⟩
      · have hp2 : p = isL := by
          rcases hp with hp | hp
          · exact hp.1
          · rw [p196, hp.2] at h1
            cases h1
        refine ⟨fun h2 => ⟨by omega, by omega, hgo (by rw [hp2]; exact p196.mp h2)⟩, fun h2 => ⟨by omega, hst (by rw [hp2]; exact fun e => h2 (p196.mpr e))⟩⟩
      · have hp2 : p = isD := by
          rcases hp with hp | hp
          · exact absurd (p196.mpr hp.2) h1
          · exact hp.1
        refine ⟨fun h2 => ⟨by omega, by omega, hgo (by rw [hp2]; exact p197.mp h2)⟩, fun h2 => ⟨by omega, hst (by rw [hp2]; exact fun e => h2 (p197.mpr e))⟩⟩
    · rw [q_21 h hr] at h1
      omega
theorem s_115 (hn : n ∈ m_I2) (hS : St F) (h : LinC F n X) (hr : r < 24) (hc : c < (X r).length) :
    C_115 n (r : Int) (c : Int) F (fun x F' => x = (span (X r) c : Nat) ∧ F' = F) m_no := by
  have hle := h.le hr
  have hd := drop_cons hc
  refine c_115 hn hS ⟨ob_22 h hr _, ?_⟩
  rw [q_22 h hr, q_22 h hr, sgn_in hc]
  unfold span
  refine ⟨fun h1 => ⟨by omega, ob_22 h hr _, ?_⟩, fun h1 => ?_⟩
  · rw [if_pos h1]
    exact ⟨fun h2 => ⟨by rw [if_pos h2]; rfl, rfl⟩, fun h2 => ⟨by rw [if_neg h2]; rfl, rfl⟩⟩
  · rw [if_neg h1]
    have go : ∀ p : Int → Bool, ((p = isL ∧ isL (gx (X r) c) = true) ∨ (p = isD ∧ isL (gx (X r) c) = false)) → p (gx (X r) c) = true →
        L_115_56 n (r : Int) (c : Int) (gx (X r) c) 1 ((c : Int) + 1) F (fun x F' => x = (spn p ((X r).drop c) : Nat) ∧ F' = F) m_no := fun p hp hq => by
      have := l_115 (c := c) p hn hS h hr hp ((X r).length - (c + 1)) (c + 1) (by omega) (by omega)
      rw [show (((c + 1 : Nat)) : Int) - (c : Int) = 1 by omega, show (((c + 1 : Nat)) : Int) = (c : Int) + 1 by omega] at this
      refine EvI.mono this ?_ (fun _ _ _ h => h)
      rintro x F' _ ⟨rfl, rfl⟩
      rw [hd, spn_cons, if_pos hq]
      exact ⟨by omega, rfl⟩
    refine ⟨fun h2 => ⟨by omega, ?_⟩, fun h2 => ⟨fun h3 => ⟨by omega, ?_⟩, fun h3 => ?_⟩⟩
    · have h2' := p196.mp h2
      rw [if_pos h2']
      exact go isL (Or.inl ⟨rfl, h2'⟩) h2'
    · have h2' : ¬ isL (gx (X r) c) = true := fun e => h2 (p196.mpr e)
      have h3' := p197.mp h3
      rw [if_neg h2', if_pos h3']
      exact go isD (Or.inr ⟨rfl, by simpa using h2'⟩) h3'
    · rw [if_neg (fun e => h2 (p196.mpr e)), if_neg (fun e => h3 (p197.mpr e))]
      exact ⟨rfl, rfl⟩
theorem s_116 {s : Nat} (hn : n ∈ m_I2) (hS : St F) (h : LinC F n X) (hr : r < 24) (hs : 1 ≤ s) (hc : c + s ≤ (X r).length) :
    C_116 n (r : Int) (c : Int) (s : Int) F (fun x F' => x = clsw (seg (X r) c s) ∧ F' = F) m_no := by
  have hle := h.le hr
  have hg : gx (seg (X r) c s) 0 = gx (X r) c := seg_gx (by omega)
  have hch := h.ch hr (j := c) (by omega)
  refine c_116 hn hS ⟨ob_22 h hr _, ?_⟩
  rw [q_22 h hr, sgn_in (by omega)]
  unfold clsw
  rw [hg, seg_len hc]
  refine ⟨fun h1 => ⟨by omega, by omega, ?_⟩, fun h1 => ⟨fun h2 => ?_, fun h2 => ?_⟩⟩
  · rw [if_pos (p196.mp h1)]
    have e : (r : Int) * 24 + (c : Int) = ((24 * r + c : Nat) : Int) := by omega
    rw [e]
    exact s_195 (ka_2_0 hn) hS (seg_len hc) (by omega) (by omega) (fun i hi => by
      rw [seg_gx hi, Nat.add_assoc]
      exact h.at hr (by omega))
  · rw [if_neg (fun e => h1 (p196.mpr e)), if_pos (p197.mp h2)]
    exact ⟨fun h3 => ⟨by rw [if_pos (by omega)], rfl⟩, fun h3 => ⟨by rw [if_neg (by omega)], rfl⟩⟩
  · rw [if_neg (fun e => h1 (p196.mpr e)), if_neg (fun e => h2 (p197.mpr e))]
    refine ⟨fun h3 => ⟨by rw [if_pos (by omega)], rfl⟩, fun h3 => ?_⟩
    rw [if_neg (by omega)]
    exact s_194 hS
end M53
