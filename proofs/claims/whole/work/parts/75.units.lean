/-! READING, OF THE REFERENCE: units put -/
section M75
variable {F F' : MF} {K : List Int} {lo hi v N q m : Nat} {W : List Int} {f : Int}
def Pu (q : Nat) (F F' : MF) : Prop := (∀ j, j ≠ 27 → j ≠ 53 → F' 201 j = F 201 j) ∧ (∀ i, i ≠ q → F' 239 i = F 239 i) ∧ fr (fun c => c = 201 ∨ (221 ≤ c ∧ c ≤ 229) ∨ c = 239) F F'
theorem s_226 {x : Int} (hS : St F) (hq : F 201 53 = (q : Int)) (hl : q < 420) : C_226 x F (fun F' => F' 239 q = x ∧ F' 201 53 = ((q + 1 : Nat) : Int) ∧ (∀ j, j ≠ 53 → F' 201 j = F 201 j) ∧ (∀ i, i ≠ q → F' 239 i = F 239 i) ∧ fr (fun c => c = 201 ∨ c = 239) F F') m_no := by
  refine c_226 hS ?_
  rw [hq, Int.toNat_natCast]
  refine ⟨by omega, by omega, ?_, ?_, fun j hj => ?_, fun i hi => ?_, (fr.rf.up (Or.inr rfl)).up (Or.inl rfl)⟩
  · rw [u_ne (by omega), u_eq]
  · rw [u_eq]; omega
  · rw [u_ne (by omega), u_ne (by omega)]
  · rw [u_ne (by omega), u_ne (by omega)]
theorem s_227 {nt : Int} (hS : St F) (h : Rpe F K m N v W f) (h1 : F 223 v = f) (h2 : F 227 v = -1) (hN : F 201 27 = (N : Int)) (hl : N < 1600) (hq : F 201 53 = (q : Int)) (hql : q < 420) (hnt : -1 ≤ nt) :
    C_227 (v : Int) nt F (fun F' => (∃ (N' : Nat) (f' : Int), Top F' K q m N' (W ++ wd 16 nt) f' ∧ F' 201 27 = (N' : Int) ∧ N' = N + (wd 16 nt).length) ∧ F' 201 53 = ((q + 1 : Nat) : Int) ∧ Agf F F' N ∧ Pu q F F') m_no := by
  have hr := h.rng
  refine c_227 hS ⟨fun e => ?_, fun e => ?_⟩
  · refine CaV.on (s_226 hS hq hql) ?_
    rintro F1 hS1 ⟨k1, k2, k3, k4, k5⟩
    have ha : Agf F F1 N := fun c i x y z => by rw [k5 c (by omega)]
    have ew : W ++ wd 16 nt = W := by unfold wd; rw [if_pos e, List.append_nil]
    refine ⟨⟨N, f, ?_, (k3 27 (by decide)).trans hN, by unfold wd; rw [if_pos e]; rfl⟩, k2, ha, fun j x y => k3 j y, k4, fun c hc => k5 c (by omega)⟩
    rw [ew]
    exact ⟨v, k1, (ha 223 v (by decide) (by decide) hr.2).trans h1, (ha 227 v (by decide) (by decide) hr.2).trans h2, h.cong (ha.ag (Nat.le_refl _))⟩
  · obtain ⟨p, rfl⟩ : ∃ p : Nat, nt = (p : Int) := ⟨nt.toNat, by omega⟩
    refine CaI.on (s_221 hS hN hl) ?_
    rintro r F1 hS1 ⟨rfl, m1, m2, m3, m4, m5⟩
    rw [Int.toNat_natCast]
    refine ⟨by omega, ?_⟩
    have hS2 : St (m_up F1 224 N (v : Int)) := hS1.arr kd_224 (by decide)
    have c1 : ∀ j, m_up F1 224 N (v : Int) 201 j = F1 201 j := fun j => u_ne (by omega)
    refine CaV.on (s_226 hS2 (q := q) (by rw [c1, m4 53 (by decide)]; exact hq) hql) ?_
    rintro F2 hS3 ⟨k1, k2, k3, k4, k5⟩
    have ha : Agf F F2 N := fun c i x y z => by rw [k5 c (by omega), u_ne (by omega)]; exact m3 c i x y z
    have g : ∀ c, 221 ≤ c → c ≤ 229 → F2 c N = m_up F1 224 N (v : Int) c N := fun c x y => by rw [k5 c (by omega)]
    have ew : W ++ wd 16 (p : Int) = W ++ [mk 16 p 0] := by unfold wd; rw [if_neg e]; rfl
    refine ⟨⟨N + 1, (p : Int), ?_, ?_, by rw [wd_len]; exact (congrArg (N + ·) (pn1_nat p)).symm⟩, k2, ha, fun j x y => ?_, fun i hi => ?_, fun c hc => ?_⟩
    · rw [ew]
      refine ⟨N, k1, ?_, ?_, Rpe.nt (h.cong (ha.ag (Nat.le_refl _))) ?_ ?_ ?_ ((ha 223 v (by decide) (by decide) hr.2).trans h1) (by rw [g 225 (by decide) (by decide), u_ne (by omega)]; exact m2.2.2.2.2.1)⟩
      · rw [g 223 (by decide) (by decide), u_ne (by omega)]; exact m2.2.2.1
      · rw [g 227 (by decide) (by decide), u_ne (by omega)]; exact m2.2.2.2.2.2.2.1
      · rw [g 221 (by decide) (by decide), u_ne (by omega)]; exact m2.1
      · rw [g 222 (by decide) (by decide), u_ne (by omega)]; exact m2.2.1
      · rw [g 224 (by decide) (by decide), u_eq]
    · rw [k3 27 (by decide), c1]; exact m1
    · rw [k3 j y, c1, m4 j x]
    · rw [k4 i hi, u_ne (by omega), m5 239 (by omega)]
    · rw [k5 c (by omega), up_row (by omega), m5 c (by omega)]
/-- signs that wait on a level, innermost first -/
def pl (l : Lv) : List Nat := (if tms l = -1 then [] else [(tms l).toNat]) ++ (if ads l = -1 then [] else [(ads l).toNat]) ++ (if cps l = -1 then [] else [(cps l).toNat])
def hdl : List Lv → Lv
  | [] => lv0 0 0
  | l :: _ => l
/-- where a level begins: signs, nodes done, nodes made, words -/
def LvB (F : MF) (K : List Int) (n0 : Nat) (C0 : List Int) : List Lv → Nat → Nat → Nat → List Int → Prop
  | [] => fun _ _ _ _ => False
  | l :: r => fun s q lo W => F 242 r.length = (if cps l = -1 then 0 else 1) ∧
    ((r = [] ∧ shp l = 0 ∧ s = 0 ∧ q = 0 ∧ lo = n0 ∧ W = C0) ∨
    (∃ (s1 q1 lo1 s2 m : Nat) (W1 W2 : List Int), LvB F K n0 C0 r s1 q1 lo1 W1 ∧ PE F K s1 q1 lo1 W1 (pl (hdl r)) s2 q m W2 ∧ F 238 s2 = 0 ∧ s = s2 + 1 ∧ F 243 r.length = nts (hdl r) ∧
      ((shp l = 1 ∧ F 240 r.length = -1 ∧ F 244 r.length = opn l ∧ lo = m ∧ W = W2) ∨
      (shp l = 2 ∧ F 240 r.length = (m : Int) ∧ (F 221 m = 14 ∧ F 222 m = opn l ∧ F 223 m = opn l ∧ F 227 m = -1 ∧ opn l < 256) ∧
        ∃ (k : Nat) (y : Int) (W3 : List Int), F 241 r.length = y ∧ szs l = (k : Int) ∧ ArL (Rpe F K) F k (m + 1) lo (F 224 m) y W3 ∧ m < lo ∧ (y ≠ -1 → F 227 y.toNat = -1) ∧ W = W2 ++ W3))))
theorem Rpe.rng' : ∀ a b v W f, Rpe F K a b v W f → a ≤ v ∧ v < b := fun _ _ _ _ _ h => h.rng
theorem LvB.rng {n0 : Nat} {C0 : List Int} : ∀ (L : List Lv) (s q lo : Nat) (W : List Int), LvB F K n0 C0 L s q lo W → n0 ≤ lo ∧ L ≠ [] := by
  intro L
  induction L with
  | nil => intro s q lo W h; exact absurd h (fun h => h)
  | cons l r ih =>
    rintro s q lo W ⟨-, ⟨-, -, -, -, h, -⟩ | ⟨s1, q1, lo1, s2, m, W1, W2, h1, h2, h3, h4, h5, h6⟩⟩
    · exact ⟨by omega, fun e => by cases e⟩
    · have g1 := (ih _ _ _ _ h1).1
      have g2 := PE.rng _ _ _ _ _ h2
      refine ⟨?_, fun e => by cases e⟩
      rcases h6 with ⟨-, -, -, h, -⟩ | ⟨-, -, -, k, y, W3, -, -, -, h, -⟩ <;> omega
theorem LvB.cong {n0 : Nat} {C0 : List Int} : ∀ (L : List Lv) (s q lo : Nat) (W : List Int), LvB F K n0 C0 L s q lo W → (∀ i, i < s → F' 238 i = F 238 i) → (∀ i, i < q → F' 239 i = F 239 i) → Agf F F' lo →
    (∀ c i, 240 ≤ c → c ≤ 244 → i < L.length → F' c i = F c i) → LvB F' K n0 C0 L s q lo W := by
  intro L
  induction L with
  | nil => intro s q lo W h; exact absurd h (fun h => h)
  | cons l r ih =>
    rintro s q lo W ⟨h0, h⟩ k1 k2 k3 k4
    have k5 : ∀ c, 240 ≤ c → c ≤ 244 → F' c r.length = F c r.length := fun c a b => k4 c r.length a b (by rw [List.length_cons]; exact Nat.lt_succ_self _)
    refine ⟨(k5 242 (by decide) (by decide)).trans h0, ?_⟩
    rcases h with h | ⟨s1, q1, lo1, s2, m, W1, W2, h1, h2, h3, h4, h5, h6⟩
    · exact Or.inl h
    · have hm : m ≤ lo := by rcases h6 with ⟨-, -, -, h, -⟩ | ⟨-, -, -, k, y, W3, -, -, -, h, -⟩ <;> omega
      have g2 := PE.rng _ _ _ _ _ h2
      refine Or.inr ⟨s1, q1, lo1, s2, m, W1, W2, ih _ _ _ _ h1 (fun i hi => k1 i (by omega)) (fun i hi => k2 i (by omega)) (k3.le (by omega)) (fun c i a b d => k4 c i a b (by rw [List.length_cons]; omega)),
        (PE.cong _ _ _ _ _ h2 (fun i _ hi => k1 i (by omega)) (fun i _ hi => k2 i (by omega)) (k3.le hm)).1, (k1 s2 (by omega)).trans h3, h4, (k5 243 (by decide) (by decide)).trans h5, ?_⟩
      rcases h6 with ⟨e1, e2, e3, e4, e5⟩ | ⟨e1, e2, ⟨e3, e4, e5, e6⟩, k, y, W3, e7, e8, e9, e10, e11, e12⟩
      · exact Or.inl ⟨e1, (k5 240 (by decide) (by decide)).trans e2, (k5 244 (by decide) (by decide)).trans e3, e4, e5⟩
      · have g3 := ArL.rng Rpe.rng' _ _ _ _ _ _ e9
        refine Or.inr ⟨e1, (k5 240 (by decide) (by decide)).trans e2, ⟨(k3 221 m (by decide) (by decide) e10).trans e3, (k3 222 m (by decide) (by decide) e10).trans e4, (k3 223 m (by decide) (by decide) e10).trans e5, (k3 227 m (by decide) (by decide) e10).trans e6.1, e6.2⟩, k, y, W3, (k5 241 (by decide) (by decide)).trans e7, e8, ?_, e10, fun hy => ?_, e12⟩
        · rw [k3 224 m (by decide) (by decide) e10]
          refine ArL.cong Rpe.rng' (fun a b v W f h hA => h.cong hA) _ _ _ _ _ _ e9 (fun i b1 b2 => ?_)
          have q := fun c x y => k3 c i x y (by omega)
          exact ⟨q 221 (by decide) (by decide), q 222 (by decide) (by decide), q 223 (by decide) (by decide), q 224 (by decide) (by decide), q 225 (by decide) (by decide), fun _ => q 227 (by decide) (by decide)⟩
        · rw [k3 227 y.toNat (by decide) (by decide) (by omega)]
          exact e11 hy
end M75
