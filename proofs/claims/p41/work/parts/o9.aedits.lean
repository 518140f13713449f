/-! EDITS, SIGN BY SIGN: the class and the law's rows -/
theorem and31 (x : Int) : 0 ≤ m_and x 2147483647 ∧ m_and x 2147483647 < 2147483648 := by
  unfold m_and
  have h : ((x % 4294967296).toNat &&& ((2147483647 : Int) % 4294967296).toNat) ≤ ((2147483647 : Int) % 4294967296).toNat := Nat.and_le_right
  have h2 : ((2147483647 : Int) % 4294967296).toNat = 2147483647 := by decide
  rw [h2] at h ⊢
  generalize (x % 4294967296).toNat &&& 2147483647 = w at h ⊢
  rw [w32_id (by omega)]
  omega
theorem CaWI.on {D : Nat → Prop} {nc ns N : Nat} {xs : List MV} {F : MF} {R R' : Int → MF → Prop} (h : CaWI D nc ns N xs F R) (hR : ∀ r F', St F' → R r F' → R' r F') : CaWI D nc ns N xs F R' := Wv.mono h (fun o F' => by
  rintro ⟨hS, ⟨r, h1, h2⟩ | ⟨e, h1, h2⟩⟩
  · exact ⟨hS, Or.inl ⟨r, h1, hR r F' hS h2⟩⟩
  · exact h2.elim)
section Mo9
variable {D : Nat → Prop} {nc ns n m k f q : Nat} {F F1 G : MF} {g0 g1 : Nat → Int} {X S Y Z X1 S1 : Nat → List Int} {d d1 : Bool} {e e1 x y B : Int} {R : Int → MF → Prop} {N : List Int} {L : List CH}
theorem KC.lo (h : KC F X S N L d e) (k : ∀ c, c ≤ 200 → G c = F c) : KC G X S N L d e := by
  obtain ⟨a1, a2, a3, a4, ⟨b1, b2, b3, b4⟩, a6, a7, a8⟩ := h
  have hf : fr (fun c => 200 < c) F G := fun c hc => k c (by omega)
  refine ⟨?_, ?_, fun f hf2 i hi => by rw [k _ (by omega)]; exact a3 f hf2 i hi, fun h6 => ?_, ⟨by rw [k 0 (by omega)]; exact b1, by rw [k 200 (by omega)]; exact b2, b3, b4⟩, by rw [k 0 (by omega)]; exact a6, a7.cg (by rw [k 109 (by omega)]) (fun c p q => k c (by omega)), fun hl => by rw [k 109 (by omega)]; exact a8 hl⟩
  · show Rws (G 3) (G 4) X
    rw [k 3 (by omega), k 4 (by omega)]
    exact a1
  · show Rws (G 81) (G 82) S
    rw [k 81 (by omega), k 82 (by omega)]
    exact a2
  · have hd := a4 (by rw [← k 1 (by omega)]; exact h6)
    exact ⟨hd.1.fr hf (fun c p => by omega), fun id hid => by show G 8 id = _; rw [k 8 (by omega)]; exact hd.2 id hid⟩
/-- the class holds X and S, the law's rows hold Y and Z -/
def EV (g0 g1 : Nat → Int) (F : MF) (X S Y Z : Nat → List Int) (d : Bool) (e : Int) : Prop :=
  St F ∧ KC F X S [] [] d e ∧ (∀ g, g < 3 → TPw (F (201 + g)) (fil Y g) ∧ TPw (F (204 + g)) (fil Z g)) ∧ LL (F 207) Y ∧ LL (F 208) Z ∧ F 1000000 = g0 ∧ F 1000001 = g1
theorem TPw.cgY {T : Nat → Int} (h : TPw T Y) (hY : ∀ m, m < 8 → Z m = Y m) : TPw T Z := ⟨h.1, fun m hm => by rw [hY m hm]; exact h.2 m hm⟩
theorem TPw.cgT {T T1 : Nat → Int} (h : TPw T Y) (hT : ∀ i, i < 24 → T1 i = T i) : TPw T1 Y := by
  refine ⟨fun i hi => by rw [hT i hi]; exact h.1 i hi, fun m hm => ⟨(h.2 m hm).1, fun k hk => ?_⟩⟩
  have hl := (h.2 m hm).1
  unfold dg
  rw [hT _ (by omega)]
  exact (h.2 m hm).2 k hk
theorem EV.st (h : EV g0 g1 F X S Y Z d e) (hS : St F1) (hK : KC F1 X1 S1 [] [] d1 e1) (hC : Cn F F1) : EV g0 g1 F1 X1 S1 Y Z d1 e1 := by
  obtain ⟨a1, a2, a3, a4, a5, a6, a7⟩ := h
  refine ⟨hS, hK, fun g hg => ?_, by rw [hC 207 (by decide)]; exact a4, by rw [hC 208 (by decide)]; exact a5, by rw [hC 1000000 (by decide)]; exact a6, by rw [hC 1000001 (by decide)]; exact a7⟩
  rw [hC (201 + g) (by omega), hC (204 + g) (by omega)]
  exact a3 g hg
theorem EV.row {Y' : Nat → List Int} (h : EV g0 g1 F X S Y Z d e) (hS : St F1) (hc : ∀ c, c ≠ 201 + f → c ≠ 207 → F1 c = F c) (hf : f < 3) (hT : TPw (F1 (201 + f)) (fil Y' f)) (hL : LL (F1 207) Y') (hY : ∀ g, g < 3 → g ≠ f → ∀ m, m < 8 → fil Y' g m = fil Y g m) : EV g0 g1 F1 X S Y' Z d e := by
  obtain ⟨a1, a2, a3, a4, a5, a6, a7⟩ := h
  refine ⟨hS, a2.lo (fun c h => hc c (by omega) (by omega)), fun g hg => ⟨?_, ?_⟩, hL, by rw [hc 208 (by omega) (by omega)]; exact a5, by rw [hc 1000000 (by omega) (by omega)]; exact a6, by rw [hc 1000001 (by omega) (by omega)]; exact a7⟩
  · by_cases c : g = f
    · rw [c]; exact hT
    · rw [hc (201 + g) (by omega) (by omega)]
      exact (a3 g hg).1.cgY (hY g hg c)
  · rw [hc (204 + g) (by omega) (by omega)]
    exact (a3 g hg).2
theorem s_201 (hk : m_KD[n]? = some (101, 24)) (hS : St F) (hT : TR8 (F n)) (hm : m < 8) (hk2 : k < 24) : C_201 n (m : Int) (k : Int) F (fun r F' => r = dg (F n) m k ∧ F' = F) m_no :=
  CaI.on (gs_201 hk _ _ hS (ob_201 hm hk2)) (fun r F1 _ h => ⟨by rw [h.1, q_201 hT hm hk2], h.2.symm⟩)
/-- one sign set -/
theorem s_202d {c : Int} (hk9 : m_KD[n]? = some (101, 24)) (hS : St F) (hT : TR8 (F n)) (hc : 0 ≤ c ∧ c < 128) (hm : m < 8) (hk : k < 24) :
    C_202 n (m : Int) (k : Int) c F (fun F' => TR8 (F' n) ∧ (∀ m2 k2, m2 < 8 → k2 < 24 → dg (F' n) m2 k2 = if m2 = m ∧ k2 = k then c else dg (F n) m2 k2) ∧ ∀ a, a ≠ n → F' a = F a) m_no := by
  refine CaV.on (s_202 hk9 hS hm hk) ?_
  rintro F1 hS1 rfl
  rw [m_upr]
  exact ⟨tr_set hT hc hm hk, fun m2 k2 h1 h2 => dg_set hT hc hm hk h1 h2, fun a ha => up_row ha⟩
theorem OD_cases {k v : Int} (hk : 0 ≤ k ∧ k ≤ 3) {r : Int} (h : OD (EOk F k v X1 S1 [] [] d1 e1) (ET F k (fun t => (t : Int) + 1) X S [] [] d e) r F1) :
    (k = 0 ∧ r = v ∧ KC F1 X1 S1 [] [] d1 e1 ∧ Cn F F1) ∨ (k ≠ 0 ∧ r = -10 - k ∧ KC F1 X S [] [] d e ∧ Cn F F1) := by
  rcases h with ⟨h1, h2, h3, h4⟩ | ⟨t, ht, ⟨h1, h3, h4⟩, h5⟩
  · exact Or.inl ⟨h1, h2, h3, h4⟩
  · have h1 : k = (t : Int) + 1 := h1
    exact Or.inr ⟨by omega, by omega, h3, h4⟩
theorem ET_lt {k : Int} (hk : 0 ≤ k ∧ k ≤ 3) : ∀ t F1, ET F k (fun t => (t : Int) + 1) X S [] [] d e t F1 → t < 3 := fun t F1 h => by
  have h1 : k = (t : Int) + 1 := h.1
  omega
theorem rw8_n (hm : m < 8) : rw8 (f : Int) (m : Int) = 8 * f + m := by unfold rw8; omega
/-- does, by kinds -/
theorem dv_0 {c : Int} (hf : f < 3) (hm : m < 8) (hq : q ≤ (X (8 * f + m)).length) (hc : 32 ≤ c ∧ c ≤ 126) (h : EV g0 g1 F X S Y Z d e) :
    CaWI D 1 6 387 [m_r 0, (0, 0), (0, (f : Int)), (0, (m : Int)), (0, (q : Int)), (0, c)] F (fun r F' => ((X (8 * f + m)).length < 24 ∧ r = (X (8 * f + m)).length + 1 ∧ EV g0 g1 F' (rupd X (8 * f + m) (ins (X (8 * f + m)) q c)) S Y Z true (relx X (rupd X (8 * f + m) (ins (X (8 * f + m)) q c)) f m : Nat)) ∨ (¬ (X (8 * f + m)).length < 24 ∧ r = -13 ∧ EV g0 g1 F' X S Y Z d e)) := by
  have ek : kIn X (f : Int) (m : Int) (q : Int) c = if (X (8 * f + m)).length < 24 then 0 else 3 := by
    unfold kIn
    rw [pif_1 ⟨f, m, q, hf, hm, hq, rfl, rfl, rfl⟩, pif_1 hc, rw8_n hm]
    by_cases c2 : (X (8 * f + m)).length < 24
    · rw [pif_1 c2, if_pos c2]
    · rw [pif_0 c2, if_neg c2]
  have hk : 0 ≤ kIn X (f : Int) (m : Int) (q : Int) c ∧ kIn X (f : Int) (m : Int) (q : Int) c ≤ 3 := by rw [ek]; split <;> omega
  refine CaWI.on (d_0 ⟨by omega, by omega⟩ (ET_lt hk) (f_141 h.1 h.2.1)) (fun r F1 hS1 h1 => ?_)
  rcases OD_cases hk h1 with ⟨k0, k1, k2, k3⟩ | ⟨k0, k1, k2, k3⟩
  · rw [ek] at k0
    have c2 : (X (8 * f + m)).length < 24 := by
      by_cases c2 : (X (8 * f + m)).length < 24
      · exact c2
      · rw [if_neg c2] at k0; cases k0
    rw [rw8_n hm] at k1
    have e1 : xIn X (f : Int) (m : Int) (q : Int) c = rupd X (8 * f + m) (ins (X (8 * f + m)) q c) := by
      unfold xIn
      rw [rw8_n hm, Int.toNat_natCast]
    rw [e1] at k2
    have e2 : rlI X (rupd X (8 * f + m) (ins (X (8 * f + m)) q c)) (f : Int) (m : Int) = (relx X (rupd X (8 * f + m) (ins (X (8 * f + m)) q c)) f m : Nat) := by
      unfold rlI
      rw [Int.toNat_natCast, Int.toNat_natCast]
    rw [e2] at k2
    exact Or.inl ⟨c2, k1, h.st hS1 k2 k3⟩
  · rw [ek] at k0 k1
    have c2 : ¬ (X (8 * f + m)).length < 24 := fun c2 => k0 (if_pos c2)
    rw [if_neg c2] at k1
    exact Or.inr ⟨c2, by omega, h.st hS1 k2 k3⟩
theorem dv_1 (hf : f < 3) (hm : m < 8) (hq : q < (X (8 * f + m)).length ∨ (X (8 * f + m)).length = 0) (h : EV g0 g1 F X S Y Z d e) :
    CaWI D 1 6 387 [m_r 0, (0, 1), (0, (f : Int)), (0, (m : Int)), (0, (q : Int)), (0, 0)] F (fun r F' => (q < (X (8 * f + m)).length ∧ r = gx (X (8 * f + m)) q ∧ EV g0 g1 F' (rupd X (8 * f + m) (del (X (8 * f + m)) q)) S Y Z true (relx X (rupd X (8 * f + m) (del (X (8 * f + m)) q)) f m : Nat)) ∨ ((X (8 * f + m)).length = 0 ∧ r = -11 ∧ EV g0 g1 F' X S Y Z d e)) := by
  have ec : isCh X (f : Int) (m : Int) (q : Int) ↔ q < (X (8 * f + m)).length := by
    constructor
    · rintro ⟨f2, m2, q2, a1, a2, a3, a4, a5, a6⟩
      obtain rfl : f = f2 := by omega
      obtain rfl : m = m2 := by omega
      obtain rfl : q = q2 := by omega
      exact a3
    · exact fun h => ⟨f, m, q, hf, hm, h, rfl, rfl, rfl⟩
  have ek : pif (isCh X (f : Int) (m : Int) (q : Int)) 0 1 = if q < (X (8 * f + m)).length then 0 else 1 := by
    by_cases c2 : q < (X (8 * f + m)).length
    · rw [pif_1 (ec.mpr c2), if_pos c2]
    · rw [pif_0 (fun h => c2 (ec.mp h)), if_neg c2]
  have hk : 0 ≤ pif (isCh X (f : Int) (m : Int) (q : Int)) 0 1 ∧ pif (isCh X (f : Int) (m : Int) (q : Int)) 0 1 ≤ 3 := by rw [ek]; split <;> omega
  refine CaWI.on (d_1 (ET_lt hk) (f_142 h.1 h.2.1)) (fun r F1 hS1 h1 => ?_)
  rcases OD_cases hk h1 with ⟨k0, k1, k2, k3⟩ | ⟨k0, k1, k2, k3⟩
  · rw [ek] at k0
    have c2 : q < (X (8 * f + m)).length := by
      by_cases c2 : q < (X (8 * f + m)).length
      · exact c2
      · rw [if_neg c2] at k0; cases k0
    unfold aCh at k1
    rw [Int.toNat_natCast, Int.toNat_natCast, Int.toNat_natCast] at k1
    have e1 : xEr X (f : Int) (m : Int) (q : Int) = rupd X (8 * f + m) (del (X (8 * f + m)) q) := by
      unfold xEr
      rw [rw8_n hm, Int.toNat_natCast]
    rw [e1] at k2
    have e2 : rlI X (rupd X (8 * f + m) (del (X (8 * f + m)) q)) (f : Int) (m : Int) = (relx X (rupd X (8 * f + m) (del (X (8 * f + m)) q)) f m : Nat) := by
      unfold rlI
      rw [Int.toNat_natCast, Int.toNat_natCast]
    rw [e2] at k2
    exact Or.inl ⟨c2, k1, h.st hS1 k2 k3⟩
  · rw [ek] at k0 k1
    have c2 : ¬ q < (X (8 * f + m)).length := fun c2 => k0 (if_pos c2)
    rw [if_neg c2] at k1
    exact Or.inr ⟨by omega, by omega, h.st hS1 k2 k3⟩
theorem ptx_18 : ptx 18 = [47, 42, 32] := by decide +kernel
theorem ptx_19 : ptx 19 = [32, 42, 47] := by decide +kernel
theorem dv_2 {p : Nat} (hf : f < 3) (hm : m < 8) (hp : p = 18 ∨ p = 19) (h : EV g0 g1 F X S Y Z d e) :
    CaWI D 1 6 387 [m_r 0, (0, 2), (0, (f : Int)), (0, (m : Int)), (0, (p : Int)), (0, 0)] F (fun r F' => ((X (8 * f + m)).length ≤ 21 ∧ r = (X (8 * f + m)).length + 3 ∧ EV g0 g1 F' (rupd X (8 * f + m) (X (8 * f + m) ++ ptx p)) S Y Z true (relx X (rupd X (8 * f + m) (X (8 * f + m) ++ ptx p)) f m : Nat)) ∨ (21 < (X (8 * f + m)).length ∧ r = -13 ∧ EV g0 g1 F' X S Y Z d e)) := by
  have hl : (ptx p).length = 3 := by
    rcases hp with rfl | rfl
    · rw [ptx_18]; rfl
    · rw [ptx_19]; rfl
  have ek : kPa X (f : Int) (m : Int) (p : Int) = if (X (8 * f + m)).length ≤ 21 then 0 else 3 := by
    unfold kPa
    rw [pif_1 ⟨f, m, hf, hm, rfl, rfl⟩, pif_1 (by omega), rw8_n hm, Int.toNat_natCast, hl]
    by_cases c2 : (X (8 * f + m)).length ≤ 21
    · rw [pif_1 (by omega), if_pos c2]
    · rw [pif_0 (by omega), if_neg c2]
  have hk : 0 ≤ kPa X (f : Int) (m : Int) (p : Int) ∧ kPa X (f : Int) (m : Int) (p : Int) ≤ 3 := by rw [ek]; split <;> omega
  refine CaWI.on (d_2 (ET_lt hk) (f_143 h.1 h.2.1)) (fun r F1 hS1 h1 => ?_)
  rcases OD_cases hk h1 with ⟨k0, k1, k2, k3⟩ | ⟨k0, k1, k2, k3⟩
  · rw [ek] at k0
    have c2 : (X (8 * f + m)).length ≤ 21 := by
      by_cases c2 : (X (8 * f + m)).length ≤ 21
      · exact c2
      · rw [if_neg c2] at k0; cases k0
    rw [rw8_n hm, Int.toNat_natCast, hl] at k1
    have e1 : xPa X (f : Int) (m : Int) (p : Int) = rupd X (8 * f + m) (X (8 * f + m) ++ ptx p) := by
      unfold xPa
      rw [rw8_n hm, Int.toNat_natCast]
    rw [e1] at k2
    have e2 : rlI X (rupd X (8 * f + m) (X (8 * f + m) ++ ptx p)) (f : Int) (m : Int) = (relx X (rupd X (8 * f + m) (X (8 * f + m) ++ ptx p)) f m : Nat) := by
      unfold rlI
      rw [Int.toNat_natCast, Int.toNat_natCast]
    rw [e2] at k2
    exact Or.inl ⟨c2, by omega, h.st hS1 k2 k3⟩
  · rw [ek] at k0 k1
    have c2 : ¬ (X (8 * f + m)).length ≤ 21 := fun c2 => k0 (if_pos c2)
    rw [if_neg c2] at k1
    exact Or.inr ⟨by omega, by omega, h.st hS1 k2 k3⟩
theorem dv_3 (hf : f < 3) (hm : m < 8) (h : EV g0 g1 F X S Y Z d e) :
    CaWI D 1 6 387 [m_r 0, (0, 3), (0, (f : Int)), (0, (m : Int)), (0, 0), (0, 0)] F (fun r F' => r = (X (8 * f + m)).length ∧ ∃ d1, EV g0 g1 F' (rupd X (8 * f + m) []) S Y Z d1 (relx X (rupd X (8 * f + m) []) f m : Nat)) := by
  have ek : pif (isLn (f : Int) (m : Int)) 0 1 = 0 := pif_1 ⟨f, m, hf, hm, rfl, rfl⟩
  have hk : 0 ≤ pif (isLn (f : Int) (m : Int)) 0 1 ∧ pif (isLn (f : Int) (m : Int)) 0 1 ≤ 3 := by rw [ek]; omega
  refine CaWI.on (d_3 (ET_lt hk) (f_144 h.1 h.2.1)) (fun r F1 hS1 h1 => ?_)
  rcases OD_cases hk h1 with ⟨k0, k1, k2, k3⟩ | ⟨k0, k1, k2, k3⟩
  · unfold aLn at k1
    rw [Int.toNat_natCast, Int.toNat_natCast] at k1
    have e1 : xCl X (f : Int) (m : Int) = rupd X (8 * f + m) [] := by
      unfold xCl
      rw [rw8_n hm]
    rw [e1] at k2
    have e2 : rlI X (rupd X (8 * f + m) []) (f : Int) (m : Int) = (relx X (rupd X (8 * f + m) []) f m : Nat) := by
      unfold rlI
      rw [Int.toNat_natCast, Int.toNat_natCast]
    rw [e2] at k2
    exact ⟨k1, _, h.st hS1 k2 k3⟩
  · exact absurd ek k0
theorem dv_4 (hf : f < 3) (h : EV g0 g1 F X S Y Z d e) :
    CaWI D 1 6 387 [m_r 0, (0, 4), (0, (f : Int)), (0, 0), (0, 0), (0, 0)] F (fun r F' => r = (dif X S f 8 : Nat) ∧ EV g0 g1 F' X (cpf X S f 8) Y Z d e) := by
  have ek : pif (isF3 (f : Int)) 0 1 = 0 := pif_1 ⟨f, hf, rfl⟩
  have hk : 0 ≤ pif (isF3 (f : Int)) 0 1 ∧ pif (isF3 (f : Int)) 0 1 ≤ 3 := by rw [ek]; omega
  refine CaWI.on (d_4 (ET_lt hk) (f_145 h.1 h.2.1)) (fun r F1 hS1 h1 => ?_)
  rcases OD_cases hk h1 with ⟨k0, k1, k2, k3⟩ | ⟨k0, k1, k2, k3⟩
  · unfold vSv at k1
    rw [Int.toNat_natCast] at k1
    unfold xSv at k2
    rw [Int.toNat_natCast] at k2
    exact ⟨k1, h.st hS1 k2 k3⟩
  · exact absurd ek k0
theorem dif_comm : ∀ k, dif S X f k = dif X S f k
  | 0 => rfl
  | k + 1 => by
    show dif S X f k + (if S (8 * f + k) = X (8 * f + k) then 0 else 1) = dif X S f k + (if X (8 * f + k) = S (8 * f + k) then 0 else 1)
    rw [dif_comm k]
    by_cases c : X (8 * f + k) = S (8 * f + k)
    · rw [if_pos c, if_pos c.symm]
    · rw [if_neg c, if_neg (fun h => c h.symm)]
theorem dv_5 (hf : f < 3) (h : EV g0 g1 F X S Y Z d e) :
    CaWI D 1 6 387 [m_r 0, (0, 5), (0, (f : Int)), (0, 0), (0, 0), (0, 0)] F (fun r F' => r = (dif X S f 8 : Nat) ∧ ∃ d1, EV g0 g1 F' (cpf S X f 8) S Y Z d1 e) := by
  have ek : pif (isF3 (f : Int)) 0 1 = 0 := pif_1 ⟨f, hf, rfl⟩
  have hk : 0 ≤ pif (isF3 (f : Int)) 0 1 ∧ pif (isF3 (f : Int)) 0 1 ≤ 3 := by rw [ek]; omega
  refine CaWI.on (d_5 (ET_lt hk) (f_146 h.1 h.2.1)) (fun r F1 hS1 h1 => ?_)
  rcases OD_cases hk h1 with ⟨k0, k1, k2, k3⟩ | ⟨k0, k1, k2, k3⟩
  · unfold vSv at k1
    rw [Int.toNat_natCast, dif_comm] at k1
    unfold xSv at k2
    rw [Int.toNat_natCast] at k2
    exact ⟨k1, _, h.st hS1 k2 k3⟩
  · exact absurd ek k0
end Mo9
