/-! READING, OF THE REFERENCE: brackets -/
section M76
variable {F F' : MF} {K : List Int} {n0 lo hi v N q m s dep : Nat} {C0 W Wt : List Int} {f : Int} {l : Lv} {r : List Lv}
theorem s_228 {x bg : Int} (hS : St F) (hd : F 201 54 = (dep : Int)) (hs : F 201 51 = (s : Int)) (hb : F 201 60 = bg) (hdl : dep + 1 < 210) (hsl : s < 420) :
    C_228 x F (fun F' => (F' 201 54 = ((dep + 1 : Nat) : Int) ∧ F' 201 51 = ((s + 1 : Nat) : Int) ∧ F' 201 60 = -1) ∧ (F' 240 (dep + 1) = x ∧ F' 241 (dep + 1) = -1 ∧ F' 242 (dep + 1) = 0 ∧ F' 243 (dep + 1) = bg) ∧ F' 238 s = 0 ∧
      (∀ j, j ≠ 51 → j ≠ 54 → j ≠ 60 → F' 201 j = F 201 j) ∧ (∀ c i, c ≠ 201 → ¬ (c = 238 ∧ i = s) → ¬ (240 ≤ c ∧ c ≤ 243 ∧ i = dep + 1) → F' c i = F c i)) m_no := by
  refine c_228 hS ?_
  rw [hd, hs, show (dep : Int) + 1 = ((dep + 1 : Nat) : Int) by omega, show (s : Int) + 1 = ((s + 1 : Nat) : Int) by omega, hb, Int.toNat_natCast, Int.toNat_natCast]
  refine ⟨by omega, by omega, by omega, by omega, by omega, by omega, by omega, ⟨?_, ?_, ?_⟩, ⟨?_, ?_, ?_, ?_⟩, ?_, fun j a b c => ?_, fun c i a b d => ?_⟩
  · rw [u_ne (by omega), u_ne (by omega), u_ne (by omega), u_ne (by omega), u_ne (by omega), u_ne (by omega), u_ne (by omega), u_eq]
  · rw [u_eq]
  · rw [u_ne (by omega), u_ne (by omega), u_eq]
  · rw [u_ne (by omega), u_ne (by omega), u_ne (by omega), u_ne (by omega), u_ne (by omega), u_ne (by omega), u_eq]
  · rw [u_ne (by omega), u_ne (by omega), u_ne (by omega), u_ne (by omega), u_ne (by omega), u_eq]
  · rw [u_ne (by omega), u_ne (by omega), u_ne (by omega), u_ne (by omega), u_eq]
  · rw [u_ne (by omega), u_ne (by omega), u_ne (by omega), u_eq]
  · rw [u_ne (by omega), u_eq]
  · rw [u_ne (by omega), u_ne (by omega), u_ne (by omega), u_ne (by omega), u_ne (by omega), u_ne (by omega), u_ne (by omega), u_ne (by omega)]
  · rw [u_ne (by omega), u_ne (by omega), u_ne (by omega), u_ne (by omega), u_ne (by omega), u_ne (by omega), u_ne (by omega), u_ne (by omega)]
theorem s_229 (hS : St F) (h : LvB F K n0 C0 (l :: r) s q lo W) (hsh : shp l = 2) (ht : Top F K q lo N Wt f) (hq : F 201 53 = ((q + 1 : Nat) : Int)) (hd : F 201 54 = (r.length : Int)) (hql : q < 420) (hr : r.length < 210) (hN : N ≤ 1600) :
    C_229 F (fun F' => LvB F' K n0 C0 ((shp l, opn l, szs l + 1, nts l, tms l, ads l, cps l) :: r) s q N (W ++ Wt) ∧ F' 201 53 = (q : Int) ∧ (∀ j, j ≠ 53 → F' 201 j = F 201 j) ∧ Agf F F' n0 ∧ fr (fun c => c = 201 ∨ (221 ≤ c ∧ c ≤ 229) ∨ c = 241) F F') m_no := by
  obtain ⟨h0, ⟨-, e0, -⟩ | ⟨s1, q1, lo1, s2, m, W1, W2, h1, h2, h3, h4, h5, h6⟩⟩ := h
  · rw [hsh] at e0
    exact absurd e0 (by decide)
  rcases h6 with ⟨e1, -⟩ | ⟨e1, e2, ⟨e3, e4, e5, e6⟩, k, y, W3, e7, e8, e9, e10, e11, e12⟩
  · rw [hsh] at e1
    exact absurd e1 (by decide)
  obtain ⟨v, v1, v2, v3, v4⟩ := ht
  have vr := v4.rng
  have g1 := (LvB.rng _ _ _ _ _ h1).1
  have g2 := PE.rng _ _ _ _ _ h2
  have g3 := ArL.rng Rpe.rng' _ _ _ _ _ _ e9
  have fin : ∀ F', St F' → F' 201 53 = (q : Int) → (∀ j, j ≠ 53 → F' 201 j = F 201 j) → F' 241 r.length = (v : Int) → (∀ c i, ¬ c = 201 → ¬ (c = 241 ∧ i = r.length) → ¬ (c = 224 ∧ i = m ∧ k = 0) → ¬ (c = 227 ∧ (i : Int) = y ∧ 0 < k) → F' c i = F c i) → (k = 0 → F' 224 m = (v : Int)) → (0 < k → F' 227 y.toNat = (v : Int)) →
      LvB F' K n0 C0 ((shp l, opn l, szs l + 1, nts l, tms l, ads l, cps l) :: r) s q N (W ++ Wt) := by
    intro F' hS' b1 b2 b3 b4 b5 b6
    have am : Agf F F' m := fun c i x y z => b4 c i (by omega) (by omega) (by omega) (by omega)
    have al : ∀ c i, 221 ≤ c → c ≤ 229 → lo ≤ i → F' c i = F c i := fun c i x y z => b4 c i (by omega) (by omega) (by omega) (by omega)
    have lv : LvB F' K n0 C0 r s1 q1 lo1 W1 := LvB.cong _ _ _ _ _ h1 (fun i _ => b4 238 i (by omega) (by omega) (by omega) (by omega)) (fun i _ => b4 239 i (by omega) (by omega) (by omega) (by omega)) (am.le (by omega)) (fun c i x y z => b4 c i (by omega) (by omega) (by omega) (by omega))
    have pe := (PE.cong (F' := F') _ _ _ _ _ h2 (fun i _ _ => b4 238 i (by omega) (by omega) (by omega) (by omega)) (fun i _ _ => b4 239 i (by omega) (by omega) (by omega) (by omega)) am).1
    refine ⟨(b4 242 r.length (by omega) (by omega) (by omega) (by omega)).trans h0, Or.inr ⟨s1, q1, lo1, s2, m, W1, W2, lv, pe, (b4 238 s2 (by omega) (by omega) (by omega) (by omega)).trans h3, h4, (b4 243 r.length (by omega) (by omega) (by omega) (by omega)).trans h5,
      Or.inr ⟨e1, (b4 240 r.length (by omega) (by omega) (by omega) (by omega)).trans e2, ⟨(b4 221 m (by omega) (by omega) (by omega) (by omega)).trans e3, (b4 222 m (by omega) (by omega) (by omega) (by omega)).trans e4, (b4 223 m (by omega) (by omega) (by omega) (by omega)).trans e5, (b4 227 m (by omega) (by omega) (by omega) (by omega)).trans e6.1, e6.2⟩,
        k + 1, (v : Int), W3 ++ Wt, b3, ?_, ?_, by omega, fun _ => ?_, ?_⟩⟩⟩
    · show szs l + 1 = _
      rw [e8]
      omega
    · refine ⟨lo, v, F 224 m, y, W3, Wt, f, ?_, rfl, v4.cong (fun i x y => ⟨al 221 i (by decide) (by decide) x, al 222 i (by decide) (by decide) x, al 224 i (by decide) (by decide) x, al 225 i (by decide) (by decide) x, fun _ => ⟨al 223 i (by decide) (by decide) x, al 227 i (by decide) (by decide) x⟩⟩),
        (al 223 v (by decide) (by decide) vr.1).trans v2, rfl, ?_⟩
      · refine ArL.cong Rpe.rng' (fun a b v W f h hA => h.cong hA) _ _ _ _ _ _ e9 (fun i x z => ?_)
        exact ⟨b4 221 i (by omega) (by omega) (by omega) (by omega), b4 222 i (by omega) (by omega) (by omega) (by omega), b4 223 i (by omega) (by omega) (by omega) (by omega), b4 224 i (by omega) (by omega) (by omega) (by omega), b4 225 i (by omega) (by omega) (by omega) (by omega), fun hy => b4 227 i (by omega) (by omega) (by omega) (by omega)⟩
      · by_cases ek : k = 0
        · rw [if_pos ek]
          exact b5 ek
        · rw [if_neg ek]
          exact ⟨b4 224 m (by omega) (by omega) (by omega) (by omega), b6 (by omega)⟩
    · rw [Int.toNat_natCast, al 227 v (by decide) (by decide) vr.1]
      exact v3
    · rw [e12, List.append_assoc]
  refine c_229 hS ?_
  rw [hd, hq, show ((q + 1 : Nat) : Int) - 1 = (q : Int) by omega, Int.toNat_natCast, Int.toNat_natCast, v1, e2, e7, Int.toNat_natCast]
  refine ⟨by omega, by omega, by omega, by omega, fun ey => ?_, fun ey => ?_⟩
  · have ek : k = 0 := by omega
    refine ⟨by omega, by omega, ?_⟩
    obtain ⟨F2, d2⟩ : ∃ F2, F2 = m_up (m_up (m_up F 201 53 (q : Int)) 224 m (v : Int)) 241 r.length (v : Int) := ⟨_, rfl⟩
    rw [← d2]
    have hS2 : St F2 := by rw [d2]; exact ((hS.fld kd_201 rk_12_53).arr kd_224 (by decide)).arr kd_241 (by decide)
    have z : ∀ c i, ¬ (c = 201 ∧ i = 53) → ¬ (c = 241 ∧ i = r.length) → ¬ (c = 224 ∧ i = m) → F2 c i = F c i := fun c i a b d => by rw [d2, u_ne (by omega), u_ne (by omega), u_ne (by omega)]
    have z53 : F2 201 53 = (q : Int) := by rw [d2, u_ne (by omega), u_ne (by omega), u_eq]
    refine ⟨fin F2 hS2 z53 (fun j hj => z 201 j (by omega) (by omega) (by omega)) (by rw [d2, u_eq]) (fun c i a b d e => z c i (by omega) (by omega) (by omega)) (fun _ => by rw [d2, u_ne (by omega), u_eq]) (fun h => by omega), z53, fun j hj => z 201 j (by omega) (by omega) (by omega), fun c i a b d => z c i (by omega) (by omega) (by omega), fun c hc => funext fun i => z c i (fun e => hc (by omega)) (fun e => hc (by omega)) (fun e => hc (by omega))⟩
  · have ek : 0 < k := by omega
    obtain ⟨yn, rfl⟩ : ∃ yn : Nat, y = (yn : Int) := ⟨y.toNat, by omega⟩
    rw [Int.toNat_natCast]
    refine ⟨by omega, by omega, by omega, ?_⟩
    obtain ⟨F2, d2⟩ : ∃ F2, F2 = m_up (m_up (m_up F 201 53 (q : Int)) 227 yn (v : Int)) 241 r.length (v : Int) := ⟨_, rfl⟩
    rw [← d2]
    have hS2 : St F2 := by rw [d2]; exact ((hS.fld kd_201 rk_12_53).arr kd_227 (by decide)).arr kd_241 (by decide)
    have z : ∀ c i, ¬ (c = 201 ∧ i = 53) → ¬ (c = 241 ∧ i = r.length) → ¬ (c = 227 ∧ i = yn) → F2 c i = F c i := fun c i a b d => by rw [d2, u_ne (by omega), u_ne (by omega), u_ne (by omega)]
    have z53 : F2 201 53 = (q : Int) := by rw [d2, u_ne (by omega), u_ne (by omega), u_eq]
    refine ⟨fin F2 hS2 z53 (fun j hj => z 201 j (by omega) (by omega) (by omega)) (by rw [d2, u_eq]) (fun c i a b d e => z c i (by omega) (by omega) (by omega)) (fun h => by omega) (fun _ => by rw [Int.toNat_natCast, d2, u_ne (by omega), u_eq]), z53, fun j hj => z 201 j (by omega) (by omega) (by omega), fun c i a b d => z c i (by omega) (by omega) (by omega), fun c hc => funext fun i => z c i (fun e => hc (by omega)) (fun e => hc (by omega)) (fun e => hc (by omega))⟩
end M76
