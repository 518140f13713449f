/-! CALLS THAT CHANGE SOMETHING, OF THE REFERENCE: rows -/
def ER (F : MF) (k v : Int) (X' S' : Nat → List Int) (N' : List Int) (L' : List CH) (d' : Bool) (e' : Int) (X S : Nat → List Int) (N : List Int) (L : List CH) (d : Bool) (e : Int) (r : Int) (F' : MF) : Prop := F' 201 15 = k ∧ (k = 0 → r = v ∧ KR F' X' S' N' L' d' e') ∧ (k ≠ 0 → KR F' X S N L d e) ∧ Rn F F'
section Mn9
variable {F F0 G : MF} {X Y S X' S' : Nat → List Int} {N N' l : List Int} {L L' : List CH} {d d' : Bool} {e e' : Int} {f m k n q r : Nat} {x1 x2 x3 x4 : Int}
theorem RO.er {p : Prop} {v r : Int} (h : RO F p v X S N L d e r G) : ER F (pif p 0 1) v X S N L d e X S N L d e r G := by
  rcases h.1 with ⟨h1, h2, h3⟩ | ⟨h1, h2⟩
  · rw [pif_1 h1]
    exact ⟨h2, fun _ => ⟨h3, h.2.1⟩, fun _ => h.2.1, h.2.2⟩
  · rw [pif_0 h1]
    exact ⟨h2, fun _ => absurd (show (1 : Int) = 0 by assumption) (by decide), fun _ => h.2.1, h.2.2⟩
/-- it is refused -/
theorem ER.nay {c v r j : Int} (h : KR F X S N L d e) (hc : c = j) (hj : j ≠ 0) : ER F c v X' S' N' L' d' e' X S N L d e r (m_up F 201 15 j) :=
  ⟨by rw [u_eq, hc], fun c0 => absurd (hc ▸ c0) hj, fun _ => h.kq KQ.rf.u15, KQ.rf.u15.rn⟩
theorem rws_row {C D : Nat → Int} (h : Rws C D X) (hr : r < 24) (hl : Rok l) (hC : ∀ z, ¬ (24 * r ≤ z ∧ z < 24 * r + 24) → (F 202) z = C z) (hD : ∀ i, i ≠ r → (F 203) i = D i) (h1 : F 203 r = (l.length : Int)) (h2 : ∀ j, j < l.length → F 202 (24 * r + j) = gx l j) : TxM F (rupd X r l) := by
  intro i hi
  by_cases c : i = r
  · subst c
    rw [upd_eq]
    exact ⟨h1, hl, h2⟩
  · obtain ⟨k1, k2, k3⟩ := h i hi
    rw [upd_ne c]
    refine ⟨by rw [hD i c]; exact k1, k2, fun j hj => ?_⟩
    have := k2.1
    rw [hC _ (by omega)]
    exact k3 j hj
theorem rok_ins {c : Int} (h : Rok l) (hq : q ≤ l.length) (hl : l.length < 24) (hc : 32 ≤ c ∧ c ≤ 126) : Rok (ins l q c) := ⟨by rw [ins_len hq]; omega, fun a ha => by
  rcases ins_mem ha with h1 | h1
  · rw [h1]; exact hc
  · exact h.2 a h1⟩
theorem rok_del (h : Rok l) (hq : q < l.length) : Rok (del l q) := ⟨by rw [del_len hq]; have := h.1; omega, fun a ha => h.2 a (del_mem ha)⟩
theorem r_338 (hS : St F) (h : KR F X S N L d e) : C_338 x1 x2 x3 x4 F (ER F (kIn X x1 x2 x3 x4) ((X (rw8 x1 x2)).length + 1) (xIn X x1 x2 x3 x4) S N L true (rlI X (xIn X x1 x2 x3 x4) x1 x2) X S N L d e) m_no := by
  refine c_338 hS ⟨fun hp => ?_, fun hp => ER.nay h (by unfold kIn; rw [pif_0 (fun ⟨f, m, q, a, b, c, a1, a2, a3⟩ => hp (p_ln.mpr ⟨f, m, a, b, a1, a2⟩))]) (by decide)⟩
  obtain ⟨f, m, hf, hm, rfl, rfl⟩ := p_ln.mp hp
  have e8 : rw8 (f : Int) (m : Int) = 8 * f + m := by unfold rw8; omega
  have hr := h.1 (8 * f + m) (by omega)
  have hl := hr.2.1.1
  rw [show (8 * (f : Int) + (m : Int)).toNat = 8 * f + m by omega, hr.1, p_in]
  refine ⟨by omega, by omega, by omega, fun hq => ?_, fun hq => ER.nay h (by
    unfold kIn
    rw [pif_0]
    rintro ⟨f', m', q, a, b, c, a1, a2, a3⟩
    have e1 : f' = f := by omega
    have e2 : m' = m := by omega
    subst e1
    subst e2
    omega) (by decide)⟩
  obtain ⟨q, rfl⟩ : ∃ q : Nat, x3 = (q : Int) := ⟨x3.toNat, by omega⟩
  have hin : isIn X (f : Int) (m : Int) (q : Int) := ⟨f, m, q, hf, hm, by omega, rfl, rfl, rfl⟩
  rw [p_in]
  refine ⟨fun h4 => ⟨by omega, by omega, by omega, fun h24 => ER.nay h (by unfold kIn; rw [pif_1 hin, pif_1 h4, e8, pif_0 (by omega)]) (by decide), fun h24 => ?_⟩, fun h4 => ER.nay h (by unfold kIn; rw [pif_1 hin, pif_0 h4]) (by decide)⟩
  obtain ⟨l, el⟩ : ∃ l, l = X (8 * f + m) := ⟨_, rfl⟩
  obtain ⟨r, er⟩ : ∃ r, r = 8 * f + m := ⟨_, rfl⟩
  have hl24 : l.length < 24 := by rw [el]; omega
  have hql : q ≤ l.length := by rw [el]; omega
  have hrow : Rok l := by rw [el]; exact hr.2.1
  have hk0 : kIn X (f : Int) (m : Int) (q : Int) x4 = 0 := by unfold kIn; rw [pif_1 hin, pif_1 h4, e8, pif_1 (by omega)]
  have ex : rupd X r (ins l q x4) = xIn X (f : Int) (m : Int) (q : Int) x4 := by unfold xIn; rw [e8, Int.toNat_natCast, el, er]
  refine CaV.on (s_336 (hS.fld kd_201 rk_12_15) h.u15 hf) ?_
  rintro F1 hS1 ⟨u1, u2, u3⟩
  have c1 : ∀ c, c ≠ 201 → ¬ (213 ≤ c ∧ c ≤ 219) → c ≠ 279 → F1 c = F c := fun c p q s => by rw [u2 c p q s, up_row p]
  have t1 : Rws (F1 202) (F1 203) X := by rw [c1 202 (by decide) (by omega) (by decide), c1 203 (by decide) (by omega) (by decide)]; exact h.1
  have e3 : F1 203 r = (l.length : Int) := by rw [er, (t1 (8 * f + m) (by omega)).1, el]
  rw [show 8 * (f : Int) + (m : Int) = ((r : Nat) : Int) by omega, ← er, e3]
  refine ⟨by omega, by omega, by omega, ?_⟩
  have key : ∀ (d' k : Nat) (G : MF), q + d' = k → k ≤ l.length → St G → fr (fun c => c = 202) F1 G → (∀ z, ¬ (24 * r + k < z ∧ z ≤ 24 * r + l.length) → G 202 z = F1 202 z) → (∀ j, k < j → j ≤ l.length → G 202 (24 * r + j) = gx l (j - 1)) →
      L_338_103 (f : Int) (m : Int) (q : Int) x4 (r : Int) (k : Int) G (ER F (kIn X (f : Int) (m : Int) (q : Int) x4) ((X (rw8 (f : Int) (m : Int))).length + 1) (xIn X (f : Int) (m : Int) (q : Int) x4) S N L true (rlI X (xIn X (f : Int) (m : Int) (q : Int) x4) (f : Int) (m : Int)) X S N L d e) m_no := by
    intro d'
    induction d' with
    | zero =>
      intro k G hk hkl hSG hfr hA hB
      obtain rfl : k = q := by omega
      refine b_338_103 hSG ⟨fun c => by omega, fun _ => ?_⟩
      have e3G : G 203 r = (l.length : Int) := by rw [hfr 203 (by decide)]; exact e3
      rw [Int.toNat_natCast, show (24 * (r : Int) + (k : Int)).toNat = 24 * r + k by omega, e3G]
      obtain ⟨H, eH⟩ : ∃ H, H = m_up (m_up G 202 (24 * r + k) x4) 203 r ((l.length : Int) + 1) := ⟨_, rfl⟩
      rw [← eH]
      have hSH : St H := by rw [eH]; exact (hSG.arr kd_202 (by decide)).arr kd_203 (by decide)
      have cH : ∀ c, c ≠ 202 → c ≠ 203 → H c = F1 c := fun c p q => by rw [eH, up_row q, up_row p]; exact hfr c p
      have hT : TxM H (rupd X r (ins l k x4)) := by
        refine rws_row t1 (by omega) (rok_ins hrow hql hl24 h4) (fun z hz => ?_) (fun i hi => ?_) ?_ (fun j hj => ?_)
        · rw [eH, up_row (by decide), u_ne (Or.inr (by omega))]
          exact hA z (by omega)
        · rw [eH, u_ne (Or.inr hi), up_row (by decide), hfr 203 (by decide)]
        · rw [eH, u_eq, ins_len hql]; omega
        · rw [ins_len hql] at hj
          rw [eH, up_row (by decide), ins_gx hql]
          by_cases c1 : j < k
          · rw [if_pos c1, u_ne (Or.inr (by omega)), hA _ (by omega), er, (t1 (8 * f + m) (by omega)).2.2 j (by rw [← el]; omega), el]
          · rw [if_neg c1]
            by_cases c2 : j = k
            · rw [if_pos c2, c2, u_eq]
            · rw [if_neg c2, u_ne (Or.inr (by omega))]
              exact hB j (by omega) (by omega)
      refine ⟨by omega, by omega, by omega, by omega, by omega, by omega, ?_⟩
      refine s_335k (X := X) (Y := rupd X r (ins l k x4)) (l := ins l k x4) hSH h hf hm (by rw [er]) hT (fun i hi => by rw [cH 279 (by decide) (by decide)]; exact u1 i hi) (fun c hc => by rw [cH c (by omega) (by omega), c1 c (by omega) (by omega) (by omega)]) (fun j hj => by rw [cH 201 (by decide) (by decide), u3 j (by omega), u_ne (Or.inr (by omega))]) (by rw [cH 201 (by decide) (by decide), u3 15 (by decide), u_eq]) (fun F' hS' hK' h15 hRn hT' => ?_)
      refine ⟨by omega, ?_⟩
      rw [(hT' r (by omega)).1, upd_eq, ins_len hql]
      refine ⟨by rw [h15, hk0], fun _ => ⟨by rw [e8, ← el]; omega, ?_⟩, fun c => absurd hk0 c, hRn⟩
      rw [ex] at hK'
      unfold rlI
      rw [Int.toNat_natCast, Int.toNat_natCast]
      exact hK'
    | succ d' ih =>
      intro k G hk hkl hSG hfr hA hB
      refine b_338_103 hSG ⟨fun _ => ?_, fun c => by omega⟩
      have ev : G 202 (24 * (r : Int) + (k : Int) - 1).toNat = gx l (k - 1) := by
        rw [show (24 * (r : Int) + (k : Int) - 1).toNat = 24 * r + (k - 1) by omega, hA _ (by omega), er, (t1 (8 * f + m) (by omega)).2.2 (k - 1) (by rw [← el]; omega), el]
      rw [ev, show (24 * (r : Int) + (k : Int)).toNat = 24 * r + k by omega]
      refine ⟨by omega, by omega, by omega, by omega, by omega, by omega, by omega, by omega, ?_⟩
      have := ih (k - 1) (m_up G 202 (24 * r + k) (gx l (k - 1))) (by omega) (by omega) (hSG.arr kd_202 (by decide)) (hfr.up rfl) (fun z hz => by rw [u_ne (Or.inr (by omega))]; exact hA z (by omega)) (fun j h1 h2 => by
        by_cases c : j = k
        · rw [c, u_eq]
        · rw [u_ne (Or.inr (by omega))]; exact hB j (by omega) h2)
      rw [show ((k - 1 : Nat) : Int) = (k : Int) + (-1) by omega] at this
      exact this
  exact key (l.length - q) l.length F1 (by omega) (Nat.le_refl _) hS1 fr.rf (fun z _ => rfl) (fun j h1 h2 => by omega)
theorem r_339 (hS : St F) (h : KR F X S N L d e) : C_339 x1 x2 x3 F (ER F (pif (isCh X x1 x2 x3) 0 1) (aCh X x1 x2 x3) (xEr X x1 x2 x3) S N L true (rlI X (xEr X x1 x2 x3) x1 x2) X S N L d e) m_no := by
  refine c_339 hS ⟨fun hp => ?_, fun hp => ER.nay h (pif_0 (fun ⟨f, m, q, a, b, c, a1, a2, a3⟩ => hp (p_ln.mpr ⟨f, m, a, b, a1, a2⟩))) (by decide)⟩
  obtain ⟨f, m, hf, hm, rfl, rfl⟩ := p_ln.mp hp
  have e8 : rw8 (f : Int) (m : Int) = 8 * f + m := by unfold rw8; omega
  have hr := h.1 (8 * f + m) (by omega)
  have hl := hr.2.1.1
  rw [show (8 * (f : Int) + (m : Int)).toNat = 8 * f + m by omega, hr.1, p_in]
  refine ⟨by omega, by omega, by omega, by omega, fun hq => ?_, fun hq => ER.nay h (pif_0 ?_) (by decide)⟩
  · obtain ⟨q, rfl⟩ : ∃ q : Nat, x3 = (q : Int) := ⟨x3.toNat, by omega⟩
    obtain ⟨l, el⟩ : ∃ l, l = X (8 * f + m) := ⟨_, rfl⟩
    obtain ⟨r, er⟩ : ∃ r, r = 8 * f + m := ⟨_, rfl⟩
    have hql : q < l.length := by rw [el]; omega
    have hl24 : l.length ≤ 24 := by rw [el]; omega
    have hrow : Rok l := by rw [el]; exact hr.2.1
    have hin : isCh X (f : Int) (m : Int) (q : Int) := ⟨f, m, q, hf, hm, by omega, rfl, rfl, rfl⟩
    have ex : rupd X r (del l q) = xEr X (f : Int) (m : Int) (q : Int) := by unfold xEr; rw [e8, Int.toNat_natCast, el, er]
    refine CaV.on (s_336 (hS.fld kd_201 rk_12_15) h.u15 hf) ?_
    rintro F1 hS1 ⟨u1, u2, u3⟩
    have c1 : ∀ c, c ≠ 201 → ¬ (213 ≤ c ∧ c ≤ 219) → c ≠ 279 → F1 c = F c := fun c p q s => by rw [u2 c p q s, up_row p]
    have t1 : Rws (F1 202) (F1 203) X := by rw [c1 202 (by decide) (by omega) (by decide), c1 203 (by decide) (by omega) (by decide)]; exact h.1
    have tr : ∀ j, j < l.length → F1 202 (24 * r + j) = gx l j := fun j hj => by rw [er, (t1 (8 * f + m) (by omega)).2.2 j (by rw [← el]; exact hj), el]
    have e3 : F1 203 r = (l.length : Int) := by rw [er, (t1 (8 * f + m) (by omega)).1, el]
    have eg : g_206 F1 (r : Int) (q : Int) = gx l q := by
      unfold g_206
      rw [show (24 * (r : Int) + (q : Int)).toNat = 24 * r + q by omega]
      exact tr q hql
    have hch := hrow.2 _ (gx_mem hql)
    rw [show 8 * (f : Int) + (m : Int) = ((r : Nat) : Int) by omega, ← er, e3, eg]
    refine ⟨by omega, by omega, ⟨by omega, by omega, by omega, trivial⟩, by omega, by omega, by omega, ?_⟩
    have key : ∀ (d' k : Nat) (G : MF), k + d' + 1 = l.length → q ≤ k → St G → (∀ c, c ≠ 202 → c ≠ 203 → G c = F1 c) → G 203 r = (l.length : Int) - 1 → (∀ i, i ≠ r → G 203 i = F1 203 i) → (∀ z, ¬ (24 * r + q ≤ z ∧ z < 24 * r + k) → G 202 z = F1 202 z) → (∀ j, q ≤ j → j < k → G 202 (24 * r + j) = gx l (j + 1)) →
        L_339_83 (f : Int) (m : Int) (r : Int) (gx l q) (k : Int) G (ER F (pif (isCh X (f : Int) (m : Int) (q : Int)) 0 1) (aCh X (f : Int) (m : Int) (q : Int)) (xEr X (f : Int) (m : Int) (q : Int)) S N L true (rlI X (xEr X (f : Int) (m : Int) (q : Int)) (f : Int) (m : Int)) X S N L d e) m_no := by
      intro d'
      induction d' with
      | zero =>
        intro k G hk hqk hSG cG e3G eoG hA hB
        refine b_339_83 hSG ?_
        rw [Int.toNat_natCast, e3G]
        refine ⟨by omega, fun c => by omega, fun _ => ?_⟩
        have hT : TxM G (rupd X r (del l q)) := by
          refine rws_row t1 (by omega) (rok_del hrow hql) (fun z hz => hA z (by omega)) eoG ?_ (fun j hj => ?_)
          · rw [e3G, del_len hql]; omega
          · rw [del_len hql] at hj
            rw [del_gx hql]
            by_cases c1 : j < q
            · rw [if_pos c1, hA _ (by omega)]
              exact tr j (by omega)
            · rw [if_neg c1]
              exact hB j (by omega) (by omega)
        refine s_335k (X := X) (Y := rupd X r (del l q)) (l := del l q) hSG h hf hm (by rw [er]) hT (fun i hi => by rw [cG 279 (by decide) (by decide)]; exact u1 i hi) (fun c hc => by rw [cG c (by omega) (by omega), c1 c (by omega) (by omega) (by omega)]) (fun j hj => by rw [cG 201 (by decide) (by decide), u3 j (by omega), u_ne (Or.inr (by omega))]) (by rw [cG 201 (by decide) (by decide), u3 15 (by decide), u_eq]) (fun F' hS' hK' h15 hRn hT' => ?_)
        refine ⟨by omega, by omega, by rw [h15, pif_1 hin], fun _ => ⟨by simp only [aCh, Int.toNat_natCast]; rw [el], ?_⟩, fun c => absurd (pif_1 hin) c, hRn⟩
        rw [ex] at hK'
        unfold rlI
        rw [Int.toNat_natCast, Int.toNat_natCast]
        exact hK'
      | succ d' ih =>
        intro k G hk hqk hSG cG e3G eoG hA hB
        refine b_339_83 hSG ?_
        have ev : G 202 (24 * (r : Int) + (k : Int) + 1).toNat = gx l (k + 1) := by
          rw [show (24 * (r : Int) + (k : Int) + 1).toNat = 24 * r + (k + 1) by omega, hA _ (by omega)]
          exact tr (k + 1) (by omega)
        rw [Int.toNat_natCast, e3G, ev, show (24 * (r : Int) + (k : Int)).toNat = 24 * r + k by omega]
        refine ⟨by omega, fun _ => ⟨by omega, by omega, by omega, by omega, by omega, by omega, by omega, by omega, ?_⟩, fun c => by omega⟩
        have := ih (k + 1) (m_up G 202 (24 * r + k) (gx l (k + 1))) (by omega) (by omega) (hSG.arr kd_202 (by decide)) (fun c p q => by rw [up_row p]; exact cG c p q) (by rw [up_row (by decide)]; exact e3G) (fun i hi => by rw [up_row (by decide)]; exact eoG i hi) (fun z hz => by rw [u_ne (Or.inr (by omega))]; exact hA z (by omega)) (fun j h1 h2 => by
          by_cases c : j = k
          · rw [c, u_eq]
          · rw [u_ne (Or.inr (by omega))]; exact hB j h1 (by omega))
        rw [show ((k + 1 : Nat) : Int) = (k : Int) + 1 by omega] at this
        exact this
    exact key (l.length - 1 - q) q _ (by omega) (Nat.le_refl _) (hS1.arr kd_203 (by decide)) (fun c p q => up_row q) u_eq (fun i hi => u_ne (Or.inr hi)) (fun z _ => by rw [up_row (by decide)]) (fun j h1 h2 => by omega)
  · rintro ⟨f', m', q, a, b, c, a1, a2, a3⟩
    have e1 : f' = f := by omega
    have e2 : m' = m := by omega
    subst e1
    subst e2
    omega
theorem r_345 (hS : St F) (h : KR F X S N L d e) : C_345 x1 x2 F (ER F (pif (isLn x1 x2) 0 1) (aLn X x1 x2) (xCl X x1 x2) S N L (if aLn X x1 x2 = 0 then d else true) (rlI X (xCl X x1 x2) x1 x2) X S N L d e) m_no := by
  refine c_345 hS ⟨fun hp => ?_, fun hp => ER.nay h (pif_0 (fun c => hp (p_ln.mpr c))) (by decide)⟩
  have hln := p_ln.mp hp
  obtain ⟨f, m, hf, hm, rfl, rfl⟩ := p_ln.mp hp
  have e8 : rw8 (f : Int) (m : Int) = 8 * f + m := by unfold rw8; omega
  have ea : aLn X (f : Int) (m : Int) = ((X (8 * f + m)).length : Int) := by simp only [aLn, Int.toNat_natCast]
  have ex : rupd X (8 * f + m) [] = xCl X (f : Int) (m : Int) := by unfold xCl; rw [e8]
  refine CaV.on (s_336 (hS.fld kd_201 rk_12_15) h.u15 hf) ?_
  rintro F1 hS1 ⟨u1, u2, u3⟩
  have c1 : ∀ c, c ≠ 201 → ¬ (213 ≤ c ∧ c ≤ 219) → c ≠ 279 → F1 c = F c := fun c p q s => by rw [u2 c p q s, up_row p]
  have t1 : Rws (F1 202) (F1 203) X := by rw [c1 202 (by decide) (by omega) (by decide), c1 203 (by decide) (by omega) (by decide)]; exact h.1
  have hl := (h.hX (8 * f + m) (by omega)).1
  rw [show (8 * (f : Int) + (m : Int)).toNat = 8 * f + m by omega, (t1 (8 * f + m) (by omega)).1]
  obtain ⟨H, eH⟩ : ∃ H, H = m_up F1 203 (8 * f + m) 0 := ⟨_, rfl⟩
  rw [← eH]
  have hSH : St H := by rw [eH]; exact hS1.arr kd_203 (by decide)
  have cH : ∀ c, c ≠ 203 → H c = F1 c := fun c p => by rw [eH, up_row p]
  have hT : TxM H (rupd X (8 * f + m) []) := by
    refine rws_row t1 (by omega) ⟨by decide, fun a ha => absurd ha (List.not_mem_nil)⟩ (fun z _ => by rw [cH 202 (by decide)]) (fun i hi => by rw [eH, u_ne (Or.inr hi)]) (by rw [eH, u_eq]; rfl) (fun j hj => absurd hj (Nat.not_lt_zero j))
  refine ⟨by omega, by omega, by omega, by omega, by omega, by omega, fun hp0 => ?_, fun hp0 => ?_⟩
  · refine s_335k (X := X) (Y := rupd X (8 * f + m) []) (l := []) hSH h hf hm rfl hT (fun i hi => by rw [cH 279 (by decide)]; exact u1 i hi) (fun c hc => by rw [cH c (by omega), c1 c (by omega) (by omega) (by omega)]) (fun j hj => by rw [cH 201 (by decide), u3 j (by omega), u_ne (Or.inr (by omega))]) (by rw [cH 201 (by decide), u3 15 (by decide), u_eq]) (fun F' hS' hK' h15 hRn hT' => ?_)
    refine ⟨by rw [h15, pif_1 hln], fun _ => ⟨ea.symm, ?_⟩, fun c => absurd (pif_1 hln) c, hRn⟩
    rw [ex] at hK'
    unfold rlI
    rw [Int.toNat_natCast, Int.toNat_natCast, if_neg (by omega)]
    exact hK'
  · refine CaV.on (s_337 (X := X) hSH hT hf hm (fun i hi => by rw [cH 279 (by decide)]; exact u1 i hi)) ?_
    rintro F2 hS2 ⟨v1, v2, v3⟩
    have hT2 : TxM F2 (rupd X (8 * f + m) []) := by
      show Rws (F2 202) (F2 203) _
      rw [v2 202 (by omega), v2 203 (by omega)]
      exact hT
    have hc : ∀ c, (c < 201 ∨ (204 ≤ c ∧ c ≤ 212) ∨ 281 ≤ c) → F2 c = F c := fun c hc => by rw [v2 c (by omega), cH c (by omega), c1 c (by omega) (by omega) (by omega)]
    have hj : ∀ j, j ≠ 4 → j ≠ 15 → j ≠ 23 → F2 201 j = F 201 j := fun j p q s => by rw [v3 j p s, cH 201 (by decide), u3 j s, u_ne (Or.inr q)]
    obtain ⟨a1, a2, ⟨⟨b1, b2, b3⟩, b4⟩, a4, a5, a6⟩ := h
    refine ⟨by rw [v3 15 (by decide) (by decide), cH 201 (by decide), u3 15 (by decide), u_eq, pif_1 hln], fun _ => ⟨ea.symm, ?_⟩, fun c => absurd (pif_1 hln) c, fun c p => hc c (by omega)⟩
    rw [ex] at hT2 v1
    unfold rlI
    rw [Int.toNat_natCast, Int.toNat_natCast, if_pos (by omega)]
    exact ⟨hT2, by rw [hc 204 (by omega), hc 205 (by omega)]; exact a2, ⟨⟨by rw [hj 6 (by decide) (by decide) (by decide)]; exact b1, by rw [hc 206 (by omega)]; exact b2, b3⟩, b4⟩, v1, a5.cg (hj 7 (by decide) (by decide) (by decide)) (fun c p q => hc c (by omega)), fun hl => by rw [hj 14 (by decide) (by decide) (by decide)]; exact a6 hl⟩
end Mn9
